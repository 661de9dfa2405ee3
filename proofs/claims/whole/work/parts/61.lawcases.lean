/-! printed: the law, its words, its instructions, its cases -/
theorem dl_0 : decode code 0 = .ok (.new 7, 3) := by decide +kernel
theorem dl_3 : decode code 3 = .ok (.dup, 1) := by decide +kernel
theorem dl_4 : decode code 4 = .ok (.invokespecial 9, 3) := by decide +kernel
theorem dl_7 : decode code 7 = .ok (.astore_n 1, 1) := by decide +kernel
theorem dl_8 : decode code 8 = .ok (.new 10, 3) := by decide +kernel
theorem dl_11 : decode code 11 = .ok (.dup, 1) := by decide +kernel
theorem dl_12 : decode code 12 = .ok (.invokespecial 12, 3) := by decide +kernel
theorem dl_15 : decode code 15 = .ok (.astore_n 2, 1) := by decide +kernel
theorem dl_16 : decode code 16 = .ok (.iconst 0, 1) := by decide +kernel
theorem dl_17 : decode code 17 = .ok (.istore_n 3, 1) := by decide +kernel
theorem dl_18 : decode code 18 = .ok (.iload_n 3, 1) := by decide +kernel
theorem dl_19 : decode code 19 = .ok (.aload_n 0, 1) := by decide +kernel
theorem dl_20 : decode code 20 = .ok (.arraylength, 1) := by decide +kernel
theorem dl_21 : decode code 21 = .ok (.iconst 5, 1) := by decide +kernel
theorem dl_22 : decode code 22 = .ok (.isub, 1) := by decide +kernel
theorem dl_23 : decode code 23 = .ok (.if_icmp .gt 681, 3) := by decide +kernel
theorem dl_26 : decode code 26 = .ok (.aload_n 0, 1) := by decide +kernel
theorem dl_27 : decode code 27 = .ok (.iload_n 3, 1) := by decide +kernel
theorem dl_28 : decode code 28 = .ok (.iaload, 1) := by decide +kernel
theorem dl_29 : decode code 29 = .ok (.bipush 31, 2) := by decide +kernel
theorem dl_31 : decode code 31 = .ok (.iand, 1) := by decide +kernel
theorem dl_32 : decode code 32 = .ok (.tableswitch 666 0 19 #[96, 119, 152, 185, 208, 241, 274, 327, 350, 373, 426, 439, 452, 475, 498, 531, 564, 587, 610, 643], 96) := by decide +kernel
theorem dl_128 : decode code 128 = .ok (.aload_n 1, 1) := by decide +kernel
theorem dl_129 : decode code 129 = .ok (.aload_n 0, 1) := by decide +kernel
theorem dl_130 : decode code 130 = .ok (.iload_n 3, 1) := by decide +kernel
theorem dl_131 : decode code 131 = .ok (.iconst 1, 1) := by decide +kernel
theorem dl_132 : decode code 132 = .ok (.iadd, 1) := by decide +kernel
theorem dl_133 : decode code 133 = .ok (.iaload, 1) := by decide +kernel
theorem dl_134 : decode code 134 = .ok (.invokevirtual 13, 3) := by decide +kernel
theorem dl_137 : decode code 137 = .ok (.aload_n 2, 1) := by decide +kernel
theorem dl_138 : decode code 138 = .ok (.aload_n 0, 1) := by decide +kernel
theorem dl_139 : decode code 139 = .ok (.iload_n 3, 1) := by decide +kernel
theorem dl_140 : decode code 140 = .ok (.iconst 1, 1) := by decide +kernel
theorem dl_141 : decode code 141 = .ok (.iadd, 1) := by decide +kernel
theorem dl_142 : decode code 142 = .ok (.iaload, 1) := by decide +kernel
theorem dl_143 : decode code 143 = .ok (.invokevirtual 17, 3) := by decide +kernel
theorem dl_146 : decode code 146 = .ok (.if_icmp .eq 552, 3) := by decide +kernel
theorem dl_149 : decode code 149 = .ok (.iconst 0, 1) := by decide +kernel
theorem dl_150 : decode code 150 = .ok (.ireturn, 1) := by decide +kernel
theorem dl_151 : decode code 151 = .ok (.aload_n 1, 1) := by decide +kernel
theorem dl_152 : decode code 152 = .ok (.aload_n 0, 1) := by decide +kernel
theorem dl_153 : decode code 153 = .ok (.iload_n 3, 1) := by decide +kernel
theorem dl_154 : decode code 154 = .ok (.iconst 1, 1) := by decide +kernel
theorem dl_155 : decode code 155 = .ok (.iadd, 1) := by decide +kernel
theorem dl_156 : decode code 156 = .ok (.iaload, 1) := by decide +kernel
theorem dl_157 : decode code 157 = .ok (.aload_n 0, 1) := by decide +kernel
theorem dl_158 : decode code 158 = .ok (.iload_n 3, 1) := by decide +kernel
theorem dl_159 : decode code 159 = .ok (.iconst 2, 1) := by decide +kernel
theorem dl_160 : decode code 160 = .ok (.iadd, 1) := by decide +kernel
theorem dl_161 : decode code 161 = .ok (.iaload, 1) := by decide +kernel
theorem dl_162 : decode code 162 = .ok (.invokevirtual 18, 3) := by decide +kernel
theorem dl_165 : decode code 165 = .ok (.aload_n 2, 1) := by decide +kernel
theorem dl_166 : decode code 166 = .ok (.aload_n 0, 1) := by decide +kernel
theorem dl_167 : decode code 167 = .ok (.iload_n 3, 1) := by decide +kernel
theorem dl_168 : decode code 168 = .ok (.iconst 1, 1) := by decide +kernel
theorem dl_169 : decode code 169 = .ok (.iadd, 1) := by decide +kernel
theorem dl_170 : decode code 170 = .ok (.iaload, 1) := by decide +kernel
theorem dl_171 : decode code 171 = .ok (.aload_n 0, 1) := by decide +kernel
theorem dl_172 : decode code 172 = .ok (.iload_n 3, 1) := by decide +kernel
theorem dl_173 : decode code 173 = .ok (.iconst 2, 1) := by decide +kernel
theorem dl_174 : decode code 174 = .ok (.iadd, 1) := by decide +kernel
theorem dl_175 : decode code 175 = .ok (.iaload, 1) := by decide +kernel
theorem dl_176 : decode code 176 = .ok (.invokevirtual 22, 3) := by decide +kernel
theorem dl_179 : decode code 179 = .ok (.if_icmp .eq 519, 3) := by decide +kernel
theorem dl_182 : decode code 182 = .ok (.iconst 0, 1) := by decide +kernel
theorem dl_183 : decode code 183 = .ok (.ireturn, 1) := by decide +kernel
theorem dl_184 : decode code 184 = .ok (.aload_n 1, 1) := by decide +kernel
theorem dl_185 : decode code 185 = .ok (.aload_n 0, 1) := by decide +kernel
theorem dl_186 : decode code 186 = .ok (.iload_n 3, 1) := by decide +kernel
theorem dl_187 : decode code 187 = .ok (.iconst 1, 1) := by decide +kernel
theorem dl_188 : decode code 188 = .ok (.iadd, 1) := by decide +kernel
theorem dl_189 : decode code 189 = .ok (.iaload, 1) := by decide +kernel
theorem dl_190 : decode code 190 = .ok (.aload_n 0, 1) := by decide +kernel
theorem dl_191 : decode code 191 = .ok (.iload_n 3, 1) := by decide +kernel
theorem dl_192 : decode code 192 = .ok (.iconst 2, 1) := by decide +kernel
theorem dl_193 : decode code 193 = .ok (.iadd, 1) := by decide +kernel
theorem dl_194 : decode code 194 = .ok (.iaload, 1) := by decide +kernel
theorem dl_195 : decode code 195 = .ok (.invokevirtual 23, 3) := by decide +kernel
theorem dl_198 : decode code 198 = .ok (.aload_n 2, 1) := by decide +kernel
theorem dl_199 : decode code 199 = .ok (.aload_n 0, 1) := by decide +kernel
theorem dl_200 : decode code 200 = .ok (.iload_n 3, 1) := by decide +kernel
theorem dl_201 : decode code 201 = .ok (.iconst 1, 1) := by decide +kernel
theorem dl_202 : decode code 202 = .ok (.iadd, 1) := by decide +kernel
theorem dl_203 : decode code 203 = .ok (.iaload, 1) := by decide +kernel
theorem dl_204 : decode code 204 = .ok (.aload_n 0, 1) := by decide +kernel
theorem dl_205 : decode code 205 = .ok (.iload_n 3, 1) := by decide +kernel
theorem dl_206 : decode code 206 = .ok (.iconst 2, 1) := by decide +kernel
theorem dl_207 : decode code 207 = .ok (.iadd, 1) := by decide +kernel
theorem dl_208 : decode code 208 = .ok (.iaload, 1) := by decide +kernel
theorem dl_209 : decode code 209 = .ok (.invokevirtual 26, 3) := by decide +kernel
theorem dl_212 : decode code 212 = .ok (.if_icmp .eq 486, 3) := by decide +kernel
theorem dl_215 : decode code 215 = .ok (.iconst 0, 1) := by decide +kernel
theorem dl_216 : decode code 216 = .ok (.ireturn, 1) := by decide +kernel
theorem dl_217 : decode code 217 = .ok (.aload_n 1, 1) := by decide +kernel
theorem dl_218 : decode code 218 = .ok (.aload_n 0, 1) := by decide +kernel
theorem dl_219 : decode code 219 = .ok (.iload_n 3, 1) := by decide +kernel
theorem dl_220 : decode code 220 = .ok (.iconst 1, 1) := by decide +kernel
theorem dl_221 : decode code 221 = .ok (.iadd, 1) := by decide +kernel
theorem dl_222 : decode code 222 = .ok (.iaload, 1) := by decide +kernel
theorem dl_223 : decode code 223 = .ok (.invokevirtual 27, 3) := by decide +kernel
theorem dl_226 : decode code 226 = .ok (.aload_n 2, 1) := by decide +kernel
theorem dl_227 : decode code 227 = .ok (.aload_n 0, 1) := by decide +kernel
theorem dl_228 : decode code 228 = .ok (.iload_n 3, 1) := by decide +kernel
theorem dl_229 : decode code 229 = .ok (.iconst 1, 1) := by decide +kernel
theorem dl_230 : decode code 230 = .ok (.iadd, 1) := by decide +kernel
theorem dl_231 : decode code 231 = .ok (.iaload, 1) := by decide +kernel
theorem dl_232 : decode code 232 = .ok (.invokevirtual 30, 3) := by decide +kernel
theorem dl_235 : decode code 235 = .ok (.if_icmp .eq 463, 3) := by decide +kernel
theorem dl_238 : decode code 238 = .ok (.iconst 0, 1) := by decide +kernel
theorem dl_239 : decode code 239 = .ok (.ireturn, 1) := by decide +kernel
theorem dl_240 : decode code 240 = .ok (.aload_n 1, 1) := by decide +kernel
theorem dl_241 : decode code 241 = .ok (.aload_n 0, 1) := by decide +kernel
theorem dl_242 : decode code 242 = .ok (.iload_n 3, 1) := by decide +kernel
theorem dl_243 : decode code 243 = .ok (.iconst 1, 1) := by decide +kernel
theorem dl_244 : decode code 244 = .ok (.iadd, 1) := by decide +kernel
theorem dl_245 : decode code 245 = .ok (.iaload, 1) := by decide +kernel
theorem dl_246 : decode code 246 = .ok (.aload_n 0, 1) := by decide +kernel
theorem dl_247 : decode code 247 = .ok (.iload_n 3, 1) := by decide +kernel
theorem dl_248 : decode code 248 = .ok (.iconst 2, 1) := by decide +kernel
theorem dl_249 : decode code 249 = .ok (.iadd, 1) := by decide +kernel
theorem dl_250 : decode code 250 = .ok (.iaload, 1) := by decide +kernel
theorem dl_251 : decode code 251 = .ok (.invokevirtual 31, 3) := by decide +kernel
theorem dl_254 : decode code 254 = .ok (.aload_n 2, 1) := by decide +kernel
theorem dl_255 : decode code 255 = .ok (.aload_n 0, 1) := by decide +kernel
theorem dl_256 : decode code 256 = .ok (.iload_n 3, 1) := by decide +kernel
theorem dl_257 : decode code 257 = .ok (.iconst 1, 1) := by decide +kernel
theorem dl_258 : decode code 258 = .ok (.iadd, 1) := by decide +kernel
theorem dl_259 : decode code 259 = .ok (.iaload, 1) := by decide +kernel
theorem dl_260 : decode code 260 = .ok (.aload_n 0, 1) := by decide +kernel
theorem dl_261 : decode code 261 = .ok (.iload_n 3, 1) := by decide +kernel
theorem dl_262 : decode code 262 = .ok (.iconst 2, 1) := by decide +kernel
theorem dl_263 : decode code 263 = .ok (.iadd, 1) := by decide +kernel
theorem dl_264 : decode code 264 = .ok (.iaload, 1) := by decide +kernel
theorem dl_265 : decode code 265 = .ok (.invokevirtual 34, 3) := by decide +kernel
theorem dl_268 : decode code 268 = .ok (.if_icmp .eq 430, 3) := by decide +kernel
theorem dl_271 : decode code 271 = .ok (.iconst 0, 1) := by decide +kernel
theorem dl_272 : decode code 272 = .ok (.ireturn, 1) := by decide +kernel
theorem dl_273 : decode code 273 = .ok (.aload_n 1, 1) := by decide +kernel
theorem dl_274 : decode code 274 = .ok (.aload_n 0, 1) := by decide +kernel
theorem dl_275 : decode code 275 = .ok (.iload_n 3, 1) := by decide +kernel
theorem dl_276 : decode code 276 = .ok (.iconst 1, 1) := by decide +kernel
theorem dl_277 : decode code 277 = .ok (.iadd, 1) := by decide +kernel
theorem dl_278 : decode code 278 = .ok (.iaload, 1) := by decide +kernel
theorem dl_279 : decode code 279 = .ok (.aload_n 0, 1) := by decide +kernel
theorem dl_280 : decode code 280 = .ok (.iload_n 3, 1) := by decide +kernel
theorem dl_281 : decode code 281 = .ok (.iconst 2, 1) := by decide +kernel
theorem dl_282 : decode code 282 = .ok (.iadd, 1) := by decide +kernel
theorem dl_283 : decode code 283 = .ok (.iaload, 1) := by decide +kernel
theorem dl_284 : decode code 284 = .ok (.invokevirtual 35, 3) := by decide +kernel
theorem dl_287 : decode code 287 = .ok (.aload_n 2, 1) := by decide +kernel
theorem dl_288 : decode code 288 = .ok (.aload_n 0, 1) := by decide +kernel
theorem dl_289 : decode code 289 = .ok (.iload_n 3, 1) := by decide +kernel
theorem dl_290 : decode code 290 = .ok (.iconst 1, 1) := by decide +kernel
theorem dl_291 : decode code 291 = .ok (.iadd, 1) := by decide +kernel
theorem dl_292 : decode code 292 = .ok (.iaload, 1) := by decide +kernel
theorem dl_293 : decode code 293 = .ok (.aload_n 0, 1) := by decide +kernel
theorem dl_294 : decode code 294 = .ok (.iload_n 3, 1) := by decide +kernel
theorem dl_295 : decode code 295 = .ok (.iconst 2, 1) := by decide +kernel
theorem dl_296 : decode code 296 = .ok (.iadd, 1) := by decide +kernel
theorem dl_297 : decode code 297 = .ok (.iaload, 1) := by decide +kernel
theorem dl_298 : decode code 298 = .ok (.invokevirtual 38, 3) := by decide +kernel
theorem dl_301 : decode code 301 = .ok (.if_icmp .eq 397, 3) := by decide +kernel
theorem dl_304 : decode code 304 = .ok (.iconst 0, 1) := by decide +kernel
theorem dl_305 : decode code 305 = .ok (.ireturn, 1) := by decide +kernel
theorem dl_306 : decode code 306 = .ok (.aload_n 1, 1) := by decide +kernel
theorem dl_307 : decode code 307 = .ok (.aload_n 0, 1) := by decide +kernel
theorem dl_308 : decode code 308 = .ok (.iload_n 3, 1) := by decide +kernel
theorem dl_309 : decode code 309 = .ok (.iconst 1, 1) := by decide +kernel
theorem dl_310 : decode code 310 = .ok (.iadd, 1) := by decide +kernel
theorem dl_311 : decode code 311 = .ok (.iaload, 1) := by decide +kernel
theorem dl_312 : decode code 312 = .ok (.aload_n 0, 1) := by decide +kernel
theorem dl_313 : decode code 313 = .ok (.iload_n 3, 1) := by decide +kernel
theorem dl_314 : decode code 314 = .ok (.iconst 2, 1) := by decide +kernel
theorem dl_315 : decode code 315 = .ok (.iadd, 1) := by decide +kernel
theorem dl_316 : decode code 316 = .ok (.iaload, 1) := by decide +kernel
theorem dl_317 : decode code 317 = .ok (.aload_n 0, 1) := by decide +kernel
theorem dl_318 : decode code 318 = .ok (.iload_n 3, 1) := by decide +kernel
theorem dl_319 : decode code 319 = .ok (.iconst 3, 1) := by decide +kernel
theorem dl_320 : decode code 320 = .ok (.iadd, 1) := by decide +kernel
theorem dl_321 : decode code 321 = .ok (.iaload, 1) := by decide +kernel
theorem dl_322 : decode code 322 = .ok (.aload_n 0, 1) := by decide +kernel
theorem dl_323 : decode code 323 = .ok (.iload_n 3, 1) := by decide +kernel
theorem dl_324 : decode code 324 = .ok (.iconst 4, 1) := by decide +kernel
theorem dl_325 : decode code 325 = .ok (.iadd, 1) := by decide +kernel
theorem dl_326 : decode code 326 = .ok (.iaload, 1) := by decide +kernel
theorem dl_327 : decode code 327 = .ok (.invokevirtual 39, 3) := by decide +kernel
theorem dl_330 : decode code 330 = .ok (.aload_n 2, 1) := by decide +kernel
theorem dl_331 : decode code 331 = .ok (.aload_n 0, 1) := by decide +kernel
theorem dl_332 : decode code 332 = .ok (.iload_n 3, 1) := by decide +kernel
theorem dl_333 : decode code 333 = .ok (.iconst 1, 1) := by decide +kernel
theorem dl_334 : decode code 334 = .ok (.iadd, 1) := by decide +kernel
theorem dl_335 : decode code 335 = .ok (.iaload, 1) := by decide +kernel
theorem dl_336 : decode code 336 = .ok (.aload_n 0, 1) := by decide +kernel
theorem dl_337 : decode code 337 = .ok (.iload_n 3, 1) := by decide +kernel
theorem dl_338 : decode code 338 = .ok (.iconst 2, 1) := by decide +kernel
theorem dl_339 : decode code 339 = .ok (.iadd, 1) := by decide +kernel
theorem dl_340 : decode code 340 = .ok (.iaload, 1) := by decide +kernel
theorem dl_341 : decode code 341 = .ok (.aload_n 0, 1) := by decide +kernel
theorem dl_342 : decode code 342 = .ok (.iload_n 3, 1) := by decide +kernel
theorem dl_343 : decode code 343 = .ok (.iconst 3, 1) := by decide +kernel
theorem dl_344 : decode code 344 = .ok (.iadd, 1) := by decide +kernel
theorem dl_345 : decode code 345 = .ok (.iaload, 1) := by decide +kernel
theorem dl_346 : decode code 346 = .ok (.aload_n 0, 1) := by decide +kernel
theorem dl_347 : decode code 347 = .ok (.iload_n 3, 1) := by decide +kernel
theorem dl_348 : decode code 348 = .ok (.iconst 4, 1) := by decide +kernel
theorem dl_349 : decode code 349 = .ok (.iadd, 1) := by decide +kernel
theorem dl_350 : decode code 350 = .ok (.iaload, 1) := by decide +kernel
theorem dl_351 : decode code 351 = .ok (.invokevirtual 43, 3) := by decide +kernel
theorem dl_354 : decode code 354 = .ok (.if_icmp .eq 344, 3) := by decide +kernel
theorem dl_357 : decode code 357 = .ok (.iconst 0, 1) := by decide +kernel
theorem dl_358 : decode code 358 = .ok (.ireturn, 1) := by decide +kernel
theorem dl_359 : decode code 359 = .ok (.aload_n 1, 1) := by decide +kernel
theorem dl_360 : decode code 360 = .ok (.aload_n 0, 1) := by decide +kernel
theorem dl_361 : decode code 361 = .ok (.iload_n 3, 1) := by decide +kernel
theorem dl_362 : decode code 362 = .ok (.iconst 1, 1) := by decide +kernel
theorem dl_363 : decode code 363 = .ok (.iadd, 1) := by decide +kernel
theorem dl_364 : decode code 364 = .ok (.iaload, 1) := by decide +kernel
theorem dl_365 : decode code 365 = .ok (.invokevirtual 44, 3) := by decide +kernel
theorem dl_368 : decode code 368 = .ok (.aload_n 2, 1) := by decide +kernel
theorem dl_369 : decode code 369 = .ok (.aload_n 0, 1) := by decide +kernel
theorem dl_370 : decode code 370 = .ok (.iload_n 3, 1) := by decide +kernel
theorem dl_371 : decode code 371 = .ok (.iconst 1, 1) := by decide +kernel
theorem dl_372 : decode code 372 = .ok (.iadd, 1) := by decide +kernel
theorem dl_373 : decode code 373 = .ok (.iaload, 1) := by decide +kernel
theorem dl_374 : decode code 374 = .ok (.invokevirtual 47, 3) := by decide +kernel
theorem dl_377 : decode code 377 = .ok (.if_icmp .eq 321, 3) := by decide +kernel
theorem dl_380 : decode code 380 = .ok (.iconst 0, 1) := by decide +kernel
theorem dl_381 : decode code 381 = .ok (.ireturn, 1) := by decide +kernel
theorem dl_382 : decode code 382 = .ok (.aload_n 1, 1) := by decide +kernel
theorem dl_383 : decode code 383 = .ok (.aload_n 0, 1) := by decide +kernel
theorem dl_384 : decode code 384 = .ok (.iload_n 3, 1) := by decide +kernel
theorem dl_385 : decode code 385 = .ok (.iconst 1, 1) := by decide +kernel
theorem dl_386 : decode code 386 = .ok (.iadd, 1) := by decide +kernel
theorem dl_387 : decode code 387 = .ok (.iaload, 1) := by decide +kernel
theorem dl_388 : decode code 388 = .ok (.invokevirtual 48, 3) := by decide +kernel
theorem dl_391 : decode code 391 = .ok (.aload_n 2, 1) := by decide +kernel
theorem dl_392 : decode code 392 = .ok (.aload_n 0, 1) := by decide +kernel
theorem dl_393 : decode code 393 = .ok (.iload_n 3, 1) := by decide +kernel
theorem dl_394 : decode code 394 = .ok (.iconst 1, 1) := by decide +kernel
theorem dl_395 : decode code 395 = .ok (.iadd, 1) := by decide +kernel
theorem dl_396 : decode code 396 = .ok (.iaload, 1) := by decide +kernel
theorem dl_397 : decode code 397 = .ok (.invokevirtual 51, 3) := by decide +kernel
theorem dl_400 : decode code 400 = .ok (.if_icmp .eq 298, 3) := by decide +kernel
theorem dl_403 : decode code 403 = .ok (.iconst 0, 1) := by decide +kernel
theorem dl_404 : decode code 404 = .ok (.ireturn, 1) := by decide +kernel
theorem dl_405 : decode code 405 = .ok (.aload_n 1, 1) := by decide +kernel
theorem dl_406 : decode code 406 = .ok (.aload_n 0, 1) := by decide +kernel
theorem dl_407 : decode code 407 = .ok (.iload_n 3, 1) := by decide +kernel
theorem dl_408 : decode code 408 = .ok (.iconst 1, 1) := by decide +kernel
theorem dl_409 : decode code 409 = .ok (.iadd, 1) := by decide +kernel
theorem dl_410 : decode code 410 = .ok (.iaload, 1) := by decide +kernel
theorem dl_411 : decode code 411 = .ok (.aload_n 0, 1) := by decide +kernel
theorem dl_412 : decode code 412 = .ok (.iload_n 3, 1) := by decide +kernel
theorem dl_413 : decode code 413 = .ok (.iconst 2, 1) := by decide +kernel
theorem dl_414 : decode code 414 = .ok (.iadd, 1) := by decide +kernel
theorem dl_415 : decode code 415 = .ok (.iaload, 1) := by decide +kernel
theorem dl_416 : decode code 416 = .ok (.aload_n 0, 1) := by decide +kernel
theorem dl_417 : decode code 417 = .ok (.iload_n 3, 1) := by decide +kernel
theorem dl_418 : decode code 418 = .ok (.iconst 3, 1) := by decide +kernel
theorem dl_419 : decode code 419 = .ok (.iadd, 1) := by decide +kernel
theorem dl_420 : decode code 420 = .ok (.iaload, 1) := by decide +kernel
theorem dl_421 : decode code 421 = .ok (.aload_n 0, 1) := by decide +kernel
theorem dl_422 : decode code 422 = .ok (.iload_n 3, 1) := by decide +kernel
theorem dl_423 : decode code 423 = .ok (.iconst 4, 1) := by decide +kernel
theorem dl_424 : decode code 424 = .ok (.iadd, 1) := by decide +kernel
theorem dl_425 : decode code 425 = .ok (.iaload, 1) := by decide +kernel
theorem dl_426 : decode code 426 = .ok (.invokevirtual 52, 3) := by decide +kernel
theorem dl_429 : decode code 429 = .ok (.aload_n 2, 1) := by decide +kernel
theorem dl_430 : decode code 430 = .ok (.aload_n 0, 1) := by decide +kernel
theorem dl_431 : decode code 431 = .ok (.iload_n 3, 1) := by decide +kernel
theorem dl_432 : decode code 432 = .ok (.iconst 1, 1) := by decide +kernel
theorem dl_433 : decode code 433 = .ok (.iadd, 1) := by decide +kernel
theorem dl_434 : decode code 434 = .ok (.iaload, 1) := by decide +kernel
theorem dl_435 : decode code 435 = .ok (.aload_n 0, 1) := by decide +kernel
theorem dl_436 : decode code 436 = .ok (.iload_n 3, 1) := by decide +kernel
theorem dl_437 : decode code 437 = .ok (.iconst 2, 1) := by decide +kernel
theorem dl_438 : decode code 438 = .ok (.iadd, 1) := by decide +kernel
theorem dl_439 : decode code 439 = .ok (.iaload, 1) := by decide +kernel
theorem dl_440 : decode code 440 = .ok (.aload_n 0, 1) := by decide +kernel
theorem dl_441 : decode code 441 = .ok (.iload_n 3, 1) := by decide +kernel
theorem dl_442 : decode code 442 = .ok (.iconst 3, 1) := by decide +kernel
theorem dl_443 : decode code 443 = .ok (.iadd, 1) := by decide +kernel
theorem dl_444 : decode code 444 = .ok (.iaload, 1) := by decide +kernel
theorem dl_445 : decode code 445 = .ok (.aload_n 0, 1) := by decide +kernel
theorem dl_446 : decode code 446 = .ok (.iload_n 3, 1) := by decide +kernel
theorem dl_447 : decode code 447 = .ok (.iconst 4, 1) := by decide +kernel
theorem dl_448 : decode code 448 = .ok (.iadd, 1) := by decide +kernel
theorem dl_449 : decode code 449 = .ok (.iaload, 1) := by decide +kernel
theorem dl_450 : decode code 450 = .ok (.invokevirtual 55, 3) := by decide +kernel
theorem dl_453 : decode code 453 = .ok (.if_icmp .eq 245, 3) := by decide +kernel
theorem dl_456 : decode code 456 = .ok (.iconst 0, 1) := by decide +kernel
theorem dl_457 : decode code 457 = .ok (.ireturn, 1) := by decide +kernel
theorem dl_458 : decode code 458 = .ok (.aload_n 1, 1) := by decide +kernel
theorem dl_459 : decode code 459 = .ok (.invokevirtual 56, 3) := by decide +kernel
theorem dl_462 : decode code 462 = .ok (.aload_n 2, 1) := by decide +kernel
theorem dl_463 : decode code 463 = .ok (.invokevirtual 60, 3) := by decide +kernel
theorem dl_466 : decode code 466 = .ok (.if_icmp .eq 232, 3) := by decide +kernel
theorem dl_469 : decode code 469 = .ok (.iconst 0, 1) := by decide +kernel
theorem dl_470 : decode code 470 = .ok (.ireturn, 1) := by decide +kernel
theorem dl_471 : decode code 471 = .ok (.aload_n 1, 1) := by decide +kernel
theorem dl_472 : decode code 472 = .ok (.invokevirtual 61, 3) := by decide +kernel
theorem dl_475 : decode code 475 = .ok (.aload_n 2, 1) := by decide +kernel
theorem dl_476 : decode code 476 = .ok (.invokevirtual 64, 3) := by decide +kernel
theorem dl_479 : decode code 479 = .ok (.if_icmp .eq 219, 3) := by decide +kernel
theorem dl_482 : decode code 482 = .ok (.iconst 0, 1) := by decide +kernel
theorem dl_483 : decode code 483 = .ok (.ireturn, 1) := by decide +kernel
theorem dl_484 : decode code 484 = .ok (.aload_n 1, 1) := by decide +kernel
theorem dl_485 : decode code 485 = .ok (.aload_n 0, 1) := by decide +kernel
theorem dl_486 : decode code 486 = .ok (.iload_n 3, 1) := by decide +kernel
theorem dl_487 : decode code 487 = .ok (.iconst 1, 1) := by decide +kernel
theorem dl_488 : decode code 488 = .ok (.iadd, 1) := by decide +kernel
theorem dl_489 : decode code 489 = .ok (.iaload, 1) := by decide +kernel
theorem dl_490 : decode code 490 = .ok (.invokevirtual 65, 3) := by decide +kernel
theorem dl_493 : decode code 493 = .ok (.aload_n 2, 1) := by decide +kernel
theorem dl_494 : decode code 494 = .ok (.aload_n 0, 1) := by decide +kernel
theorem dl_495 : decode code 495 = .ok (.iload_n 3, 1) := by decide +kernel
theorem dl_496 : decode code 496 = .ok (.iconst 1, 1) := by decide +kernel
theorem dl_497 : decode code 497 = .ok (.iadd, 1) := by decide +kernel
theorem dl_498 : decode code 498 = .ok (.iaload, 1) := by decide +kernel
theorem dl_499 : decode code 499 = .ok (.invokevirtual 68, 3) := by decide +kernel
theorem dl_502 : decode code 502 = .ok (.if_icmp .eq 196, 3) := by decide +kernel
theorem dl_505 : decode code 505 = .ok (.iconst 0, 1) := by decide +kernel
theorem dl_506 : decode code 506 = .ok (.ireturn, 1) := by decide +kernel
theorem dl_507 : decode code 507 = .ok (.aload_n 1, 1) := by decide +kernel
theorem dl_508 : decode code 508 = .ok (.aload_n 0, 1) := by decide +kernel
theorem dl_509 : decode code 509 = .ok (.iload_n 3, 1) := by decide +kernel
theorem dl_510 : decode code 510 = .ok (.iconst 1, 1) := by decide +kernel
theorem dl_511 : decode code 511 = .ok (.iadd, 1) := by decide +kernel
theorem dl_512 : decode code 512 = .ok (.iaload, 1) := by decide +kernel
theorem dl_513 : decode code 513 = .ok (.invokevirtual 69, 3) := by decide +kernel
theorem dl_516 : decode code 516 = .ok (.aload_n 2, 1) := by decide +kernel
theorem dl_517 : decode code 517 = .ok (.aload_n 0, 1) := by decide +kernel
theorem dl_518 : decode code 518 = .ok (.iload_n 3, 1) := by decide +kernel
theorem dl_519 : decode code 519 = .ok (.iconst 1, 1) := by decide +kernel
theorem dl_520 : decode code 520 = .ok (.iadd, 1) := by decide +kernel
theorem dl_521 : decode code 521 = .ok (.iaload, 1) := by decide +kernel
theorem dl_522 : decode code 522 = .ok (.invokevirtual 72, 3) := by decide +kernel
theorem dl_525 : decode code 525 = .ok (.if_icmp .eq 173, 3) := by decide +kernel
theorem dl_528 : decode code 528 = .ok (.iconst 0, 1) := by decide +kernel
theorem dl_529 : decode code 529 = .ok (.ireturn, 1) := by decide +kernel
theorem dl_530 : decode code 530 = .ok (.aload_n 1, 1) := by decide +kernel
theorem dl_531 : decode code 531 = .ok (.aload_n 0, 1) := by decide +kernel
theorem dl_532 : decode code 532 = .ok (.iload_n 3, 1) := by decide +kernel
theorem dl_533 : decode code 533 = .ok (.iconst 1, 1) := by decide +kernel
theorem dl_534 : decode code 534 = .ok (.iadd, 1) := by decide +kernel
theorem dl_535 : decode code 535 = .ok (.iaload, 1) := by decide +kernel
theorem dl_536 : decode code 536 = .ok (.aload_n 0, 1) := by decide +kernel
theorem dl_537 : decode code 537 = .ok (.iload_n 3, 1) := by decide +kernel
theorem dl_538 : decode code 538 = .ok (.iconst 2, 1) := by decide +kernel
theorem dl_539 : decode code 539 = .ok (.iadd, 1) := by decide +kernel
theorem dl_540 : decode code 540 = .ok (.iaload, 1) := by decide +kernel
theorem dl_541 : decode code 541 = .ok (.invokevirtual 73, 3) := by decide +kernel
theorem dl_544 : decode code 544 = .ok (.aload_n 2, 1) := by decide +kernel
theorem dl_545 : decode code 545 = .ok (.aload_n 0, 1) := by decide +kernel
theorem dl_546 : decode code 546 = .ok (.iload_n 3, 1) := by decide +kernel
theorem dl_547 : decode code 547 = .ok (.iconst 1, 1) := by decide +kernel
theorem dl_548 : decode code 548 = .ok (.iadd, 1) := by decide +kernel
theorem dl_549 : decode code 549 = .ok (.iaload, 1) := by decide +kernel
theorem dl_550 : decode code 550 = .ok (.aload_n 0, 1) := by decide +kernel
theorem dl_551 : decode code 551 = .ok (.iload_n 3, 1) := by decide +kernel
theorem dl_552 : decode code 552 = .ok (.iconst 2, 1) := by decide +kernel
theorem dl_553 : decode code 553 = .ok (.iadd, 1) := by decide +kernel
theorem dl_554 : decode code 554 = .ok (.iaload, 1) := by decide +kernel
theorem dl_555 : decode code 555 = .ok (.invokevirtual 76, 3) := by decide +kernel
theorem dl_558 : decode code 558 = .ok (.if_icmp .eq 140, 3) := by decide +kernel
theorem dl_561 : decode code 561 = .ok (.iconst 0, 1) := by decide +kernel
theorem dl_562 : decode code 562 = .ok (.ireturn, 1) := by decide +kernel
theorem dl_563 : decode code 563 = .ok (.aload_n 1, 1) := by decide +kernel
theorem dl_564 : decode code 564 = .ok (.aload_n 0, 1) := by decide +kernel
theorem dl_565 : decode code 565 = .ok (.iload_n 3, 1) := by decide +kernel
theorem dl_566 : decode code 566 = .ok (.iconst 1, 1) := by decide +kernel
theorem dl_567 : decode code 567 = .ok (.iadd, 1) := by decide +kernel
theorem dl_568 : decode code 568 = .ok (.iaload, 1) := by decide +kernel
theorem dl_569 : decode code 569 = .ok (.aload_n 0, 1) := by decide +kernel
theorem dl_570 : decode code 570 = .ok (.iload_n 3, 1) := by decide +kernel
theorem dl_571 : decode code 571 = .ok (.iconst 2, 1) := by decide +kernel
theorem dl_572 : decode code 572 = .ok (.iadd, 1) := by decide +kernel
theorem dl_573 : decode code 573 = .ok (.iaload, 1) := by decide +kernel
theorem dl_574 : decode code 574 = .ok (.invokevirtual 77, 3) := by decide +kernel
theorem dl_577 : decode code 577 = .ok (.aload_n 2, 1) := by decide +kernel
theorem dl_578 : decode code 578 = .ok (.aload_n 0, 1) := by decide +kernel
theorem dl_579 : decode code 579 = .ok (.iload_n 3, 1) := by decide +kernel
theorem dl_580 : decode code 580 = .ok (.iconst 1, 1) := by decide +kernel
theorem dl_581 : decode code 581 = .ok (.iadd, 1) := by decide +kernel
theorem dl_582 : decode code 582 = .ok (.iaload, 1) := by decide +kernel
theorem dl_583 : decode code 583 = .ok (.aload_n 0, 1) := by decide +kernel
theorem dl_584 : decode code 584 = .ok (.iload_n 3, 1) := by decide +kernel
theorem dl_585 : decode code 585 = .ok (.iconst 2, 1) := by decide +kernel
theorem dl_586 : decode code 586 = .ok (.iadd, 1) := by decide +kernel
theorem dl_587 : decode code 587 = .ok (.iaload, 1) := by decide +kernel
theorem dl_588 : decode code 588 = .ok (.invokevirtual 81, 3) := by decide +kernel
theorem dl_591 : decode code 591 = .ok (.if_icmp .eq 107, 3) := by decide +kernel
theorem dl_594 : decode code 594 = .ok (.iconst 0, 1) := by decide +kernel
theorem dl_595 : decode code 595 = .ok (.ireturn, 1) := by decide +kernel
theorem dl_596 : decode code 596 = .ok (.aload_n 1, 1) := by decide +kernel
theorem dl_597 : decode code 597 = .ok (.aload_n 0, 1) := by decide +kernel
theorem dl_598 : decode code 598 = .ok (.iload_n 3, 1) := by decide +kernel
theorem dl_599 : decode code 599 = .ok (.iconst 1, 1) := by decide +kernel
theorem dl_600 : decode code 600 = .ok (.iadd, 1) := by decide +kernel
theorem dl_601 : decode code 601 = .ok (.iaload, 1) := by decide +kernel
theorem dl_602 : decode code 602 = .ok (.invokevirtual 82, 3) := by decide +kernel
theorem dl_605 : decode code 605 = .ok (.aload_n 2, 1) := by decide +kernel
theorem dl_606 : decode code 606 = .ok (.aload_n 0, 1) := by decide +kernel
theorem dl_607 : decode code 607 = .ok (.iload_n 3, 1) := by decide +kernel
theorem dl_608 : decode code 608 = .ok (.iconst 1, 1) := by decide +kernel
theorem dl_609 : decode code 609 = .ok (.iadd, 1) := by decide +kernel
theorem dl_610 : decode code 610 = .ok (.iaload, 1) := by decide +kernel
theorem dl_611 : decode code 611 = .ok (.invokevirtual 85, 3) := by decide +kernel
theorem dl_614 : decode code 614 = .ok (.if_icmp .eq 84, 3) := by decide +kernel
theorem dl_617 : decode code 617 = .ok (.iconst 0, 1) := by decide +kernel
theorem dl_618 : decode code 618 = .ok (.ireturn, 1) := by decide +kernel
theorem dl_619 : decode code 619 = .ok (.aload_n 1, 1) := by decide +kernel
theorem dl_620 : decode code 620 = .ok (.aload_n 0, 1) := by decide +kernel
theorem dl_621 : decode code 621 = .ok (.iload_n 3, 1) := by decide +kernel
theorem dl_622 : decode code 622 = .ok (.iconst 1, 1) := by decide +kernel
theorem dl_623 : decode code 623 = .ok (.iadd, 1) := by decide +kernel
theorem dl_624 : decode code 624 = .ok (.iaload, 1) := by decide +kernel
theorem dl_625 : decode code 625 = .ok (.invokevirtual 86, 3) := by decide +kernel
theorem dl_628 : decode code 628 = .ok (.aload_n 2, 1) := by decide +kernel
theorem dl_629 : decode code 629 = .ok (.aload_n 0, 1) := by decide +kernel
theorem dl_630 : decode code 630 = .ok (.iload_n 3, 1) := by decide +kernel
theorem dl_631 : decode code 631 = .ok (.iconst 1, 1) := by decide +kernel
theorem dl_632 : decode code 632 = .ok (.iadd, 1) := by decide +kernel
theorem dl_633 : decode code 633 = .ok (.iaload, 1) := by decide +kernel
theorem dl_634 : decode code 634 = .ok (.invokevirtual 89, 3) := by decide +kernel
theorem dl_637 : decode code 637 = .ok (.if_icmp .eq 61, 3) := by decide +kernel
theorem dl_640 : decode code 640 = .ok (.iconst 0, 1) := by decide +kernel
theorem dl_641 : decode code 641 = .ok (.ireturn, 1) := by decide +kernel
theorem dl_642 : decode code 642 = .ok (.aload_n 1, 1) := by decide +kernel
theorem dl_643 : decode code 643 = .ok (.aload_n 0, 1) := by decide +kernel
theorem dl_644 : decode code 644 = .ok (.iload_n 3, 1) := by decide +kernel
theorem dl_645 : decode code 645 = .ok (.iconst 1, 1) := by decide +kernel
theorem dl_646 : decode code 646 = .ok (.iadd, 1) := by decide +kernel
theorem dl_647 : decode code 647 = .ok (.iaload, 1) := by decide +kernel
theorem dl_648 : decode code 648 = .ok (.aload_n 0, 1) := by decide +kernel
theorem dl_649 : decode code 649 = .ok (.iload_n 3, 1) := by decide +kernel
theorem dl_650 : decode code 650 = .ok (.iconst 2, 1) := by decide +kernel
theorem dl_651 : decode code 651 = .ok (.iadd, 1) := by decide +kernel
theorem dl_652 : decode code 652 = .ok (.iaload, 1) := by decide +kernel
theorem dl_653 : decode code 653 = .ok (.invokevirtual 90, 3) := by decide +kernel
theorem dl_656 : decode code 656 = .ok (.aload_n 2, 1) := by decide +kernel
theorem dl_657 : decode code 657 = .ok (.aload_n 0, 1) := by decide +kernel
theorem dl_658 : decode code 658 = .ok (.iload_n 3, 1) := by decide +kernel
theorem dl_659 : decode code 659 = .ok (.iconst 1, 1) := by decide +kernel
theorem dl_660 : decode code 660 = .ok (.iadd, 1) := by decide +kernel
theorem dl_661 : decode code 661 = .ok (.iaload, 1) := by decide +kernel
theorem dl_662 : decode code 662 = .ok (.aload_n 0, 1) := by decide +kernel
theorem dl_663 : decode code 663 = .ok (.iload_n 3, 1) := by decide +kernel
theorem dl_664 : decode code 664 = .ok (.iconst 2, 1) := by decide +kernel
theorem dl_665 : decode code 665 = .ok (.iadd, 1) := by decide +kernel
theorem dl_666 : decode code 666 = .ok (.iaload, 1) := by decide +kernel
theorem dl_667 : decode code 667 = .ok (.invokevirtual 93, 3) := by decide +kernel
theorem dl_670 : decode code 670 = .ok (.if_icmp .eq 28, 3) := by decide +kernel
theorem dl_673 : decode code 673 = .ok (.iconst 0, 1) := by decide +kernel
theorem dl_674 : decode code 674 = .ok (.ireturn, 1) := by decide +kernel
theorem dl_675 : decode code 675 = .ok (.aload_n 1, 1) := by decide +kernel
theorem dl_676 : decode code 676 = .ok (.aload_n 0, 1) := by decide +kernel
theorem dl_677 : decode code 677 = .ok (.iload_n 3, 1) := by decide +kernel
theorem dl_678 : decode code 678 = .ok (.iconst 1, 1) := by decide +kernel
theorem dl_679 : decode code 679 = .ok (.iadd, 1) := by decide +kernel
theorem dl_680 : decode code 680 = .ok (.iaload, 1) := by decide +kernel
theorem dl_681 : decode code 681 = .ok (.invokevirtual 94, 3) := by decide +kernel
theorem dl_684 : decode code 684 = .ok (.aload_n 2, 1) := by decide +kernel
theorem dl_685 : decode code 685 = .ok (.aload_n 0, 1) := by decide +kernel
theorem dl_686 : decode code 686 = .ok (.iload_n 3, 1) := by decide +kernel
theorem dl_687 : decode code 687 = .ok (.iconst 1, 1) := by decide +kernel
theorem dl_688 : decode code 688 = .ok (.iadd, 1) := by decide +kernel
theorem dl_689 : decode code 689 = .ok (.iaload, 1) := by decide +kernel
theorem dl_690 : decode code 690 = .ok (.invokevirtual 97, 3) := by decide +kernel
theorem dl_693 : decode code 693 = .ok (.if_icmp .eq 5, 3) := by decide +kernel
theorem dl_696 : decode code 696 = .ok (.iconst 0, 1) := by decide +kernel
theorem dl_697 : decode code 697 = .ok (.ireturn, 1) := by decide +kernel
theorem dl_698 : decode code 698 = .ok (.iinc 3 5, 3) := by decide +kernel
theorem dl_701 : decode code 701 = .ok (.goto (-683), 3) := by decide +kernel
theorem dl_704 : decode code 704 = .ok (.iconst 1, 1) := by decide +kernel
theorem dl_705 : decode code 705 = .ok (.ireturn, 1) := by decide +kernel
theorem kl_L_13 : Cond.methodLink "SequentKernelLaw" 13 (ky 2) ∈ kwl := kwl_in (List.mem_of_getElem? (i := 360) (by decide +kernel)) rfl
theorem kl_L_17 : Cond.methodLink "SequentKernelLaw" 17 (ky 92) ∈ kwl := kwl_in (List.mem_of_getElem? (i := 876) (by decide +kernel)) rfl
theorem kl_L_18 : Cond.methodLink "SequentKernelLaw" 18 (ky 8) ∈ kwl := kwl_in (List.mem_of_getElem? (i := 386) (by decide +kernel)) rfl
theorem kl_L_22 : Cond.methodLink "SequentKernelLaw" 22 (ky 98) ∈ kwl := kwl_in (List.mem_of_getElem? (i := 900) (by decide +kernel)) rfl
theorem kl_L_23 : Cond.methodLink "SequentKernelLaw" 23 (ky 10) ∈ kwl := kwl_in (List.mem_of_getElem? (i := 394) (by decide +kernel)) rfl
theorem kl_L_26 : Cond.methodLink "SequentKernelLaw" 26 (ky 100) ∈ kwl := kwl_in (List.mem_of_getElem? (i := 908) (by decide +kernel)) rfl
theorem kl_L_27 : Cond.methodLink "SequentKernelLaw" 27 (ky 13) ∈ kwl := kwl_in (List.mem_of_getElem? (i := 407) (by decide +kernel)) rfl
theorem kl_L_30 : Cond.methodLink "SequentKernelLaw" 30 (ky 104) ∈ kwl := kwl_in (List.mem_of_getElem? (i := 924) (by decide +kernel)) rfl
theorem kl_L_31 : Cond.methodLink "SequentKernelLaw" 31 (ky 15) ∈ kwl := kwl_in (List.mem_of_getElem? (i := 417) (by decide +kernel)) rfl
theorem kl_L_34 : Cond.methodLink "SequentKernelLaw" 34 (ky 106) ∈ kwl := kwl_in (List.mem_of_getElem? (i := 932) (by decide +kernel)) rfl
theorem kl_L_35 : Cond.methodLink "SequentKernelLaw" 35 (ky 18) ∈ kwl := kwl_in (List.mem_of_getElem? (i := 429) (by decide +kernel)) rfl
theorem kl_L_38 : Cond.methodLink "SequentKernelLaw" 38 (ky 110) ∈ kwl := kwl_in (List.mem_of_getElem? (i := 948) (by decide +kernel)) rfl
theorem kl_L_39 : Cond.methodLink "SequentKernelLaw" 39 (ky 28) ∈ kwl := kwl_in (List.mem_of_getElem? (i := 472) (by decide +kernel)) rfl
theorem kl_L_43 : Cond.methodLink "SequentKernelLaw" 43 (ky 117) ∈ kwl := kwl_in (List.mem_of_getElem? (i := 976) (by decide +kernel)) rfl
theorem kl_L_44 : Cond.methodLink "SequentKernelLaw" 44 (ky 69) ∈ kwl := kwl_in (List.mem_of_getElem? (i := 652) (by decide +kernel)) rfl
theorem kl_L_47 : Cond.methodLink "SequentKernelLaw" 47 (ky 131) ∈ kwl := kwl_in (List.mem_of_getElem? (i := 1031) (by decide +kernel)) rfl
theorem kl_L_48 : Cond.methodLink "SequentKernelLaw" 48 (ky 71) ∈ kwl := kwl_in (List.mem_of_getElem? (i := 664) (by decide +kernel)) rfl
theorem kl_L_51 : Cond.methodLink "SequentKernelLaw" 51 (ky 133) ∈ kwl := kwl_in (List.mem_of_getElem? (i := 1039) (by decide +kernel)) rfl
theorem kl_L_52 : Cond.methodLink "SequentKernelLaw" 52 (ky 73) ∈ kwl := kwl_in (List.mem_of_getElem? (i := 676) (by decide +kernel)) rfl
theorem kl_L_55 : Cond.methodLink "SequentKernelLaw" 55 (ky 135) ∈ kwl := kwl_in (List.mem_of_getElem? (i := 1047) (by decide +kernel)) rfl
theorem kl_L_56 : Cond.methodLink "SequentKernelLaw" 56 (ky 76) ∈ kwl := kwl_in (List.mem_of_getElem? (i := 688) (by decide +kernel)) rfl
theorem kl_L_60 : Cond.methodLink "SequentKernelLaw" 60 (ky 136) ∈ kwl := kwl_in (List.mem_of_getElem? (i := 1051) (by decide +kernel)) rfl
theorem kl_L_61 : Cond.methodLink "SequentKernelLaw" 61 (ky 78) ∈ kwl := kwl_in (List.mem_of_getElem? (i := 696) (by decide +kernel)) rfl
theorem kl_L_64 : Cond.methodLink "SequentKernelLaw" 64 (ky 137) ∈ kwl := kwl_in (List.mem_of_getElem? (i := 1055) (by decide +kernel)) rfl
theorem kl_L_65 : Cond.methodLink "SequentKernelLaw" 65 (ky 80) ∈ kwl := kwl_in (List.mem_of_getElem? (i := 705) (by decide +kernel)) rfl
theorem kl_L_68 : Cond.methodLink "SequentKernelLaw" 68 (ky 139) ∈ kwl := kwl_in (List.mem_of_getElem? (i := 1063) (by decide +kernel)) rfl
theorem kl_L_69 : Cond.methodLink "SequentKernelLaw" 69 (ky 81) ∈ kwl := kwl_in (List.mem_of_getElem? (i := 709) (by decide +kernel)) rfl
theorem kl_L_72 : Cond.methodLink "SequentKernelLaw" 72 (ky 140) ∈ kwl := kwl_in (List.mem_of_getElem? (i := 1067) (by decide +kernel)) rfl
theorem kl_L_73 : Cond.methodLink "SequentKernelLaw" 73 (ky 82) ∈ kwl := kwl_in (List.mem_of_getElem? (i := 714) (by decide +kernel)) rfl
theorem kl_L_76 : Cond.methodLink "SequentKernelLaw" 76 (ky 141) ∈ kwl := kwl_in (List.mem_of_getElem? (i := 1071) (by decide +kernel)) rfl
theorem kl_L_77 : Cond.methodLink "SequentKernelLaw" 77 (ky 83) ∈ kwl := kwl_in (List.mem_of_getElem? (i := 718) (by decide +kernel)) rfl
theorem kl_L_81 : Cond.methodLink "SequentKernelLaw" 81 (ky 142) ∈ kwl := kwl_in (List.mem_of_getElem? (i := 1075) (by decide +kernel)) rfl
theorem kl_L_82 : Cond.methodLink "SequentKernelLaw" 82 (ky 84) ∈ kwl := kwl_in (List.mem_of_getElem? (i := 723) (by decide +kernel)) rfl
theorem kl_L_85 : Cond.methodLink "SequentKernelLaw" 85 (ky 143) ∈ kwl := kwl_in (List.mem_of_getElem? (i := 1079) (by decide +kernel)) rfl
theorem kl_L_86 : Cond.methodLink "SequentKernelLaw" 86 (ky 85) ∈ kwl := kwl_in (List.mem_of_getElem? (i := 727) (by decide +kernel)) rfl
theorem kl_L_89 : Cond.methodLink "SequentKernelLaw" 89 (ky 144) ∈ kwl := kwl_in (List.mem_of_getElem? (i := 1083) (by decide +kernel)) rfl
theorem kl_L_90 : Cond.methodLink "SequentKernelLaw" 90 (ky 86) ∈ kwl := kwl_in (List.mem_of_getElem? (i := 731) (by decide +kernel)) rfl
theorem kl_L_93 : Cond.methodLink "SequentKernelLaw" 93 (ky 145) ∈ kwl := kwl_in (List.mem_of_getElem? (i := 1087) (by decide +kernel)) rfl
theorem kl_L_94 : Cond.methodLink "SequentKernelLaw" 94 (ky 88) ∈ kwl := kwl_in (List.mem_of_getElem? (i := 739) (by decide +kernel)) rfl
theorem kl_L_97 : Cond.methodLink "SequentKernelLaw" 97 (ky 146) ∈ kwl := kwl_in (List.mem_of_getElem? (i := 1091) (by decide +kernel)) rfl
section LAWCASES
variable {p : Program} {l : Launch} {e : Env} {s : State} {m : MethodId} {args : Array Value} {below : List Frame} {meth : Method} {c : Code} {H : Heap} {locs : List Loc} {Q : State → Prop} {ls : Array Slot} {b L : Nat} {xs : Nat → Int32} {D : va_G} {cI cZ : ClassId} {ad : Nat → Nat} {S : kS} {M : kO} {τ : Nat} {i : Int32}
set_option maxHeartbeats 4000000 in
theorem lc_case_0 (X : lcX p s m args c b L xs D cI cZ ad) (hl : lv_has ls 4 (lcl b ad i)) (hin : ∀ k : Nat, k < 5 → vp_in (i + Int32.ofNat k) L) (hP : va_P D kcl (kw cI cZ ad S) H) (hS : va_S (lcS s) s.heap H locs) (hB : kBoth S M τ) (hτ : τ + 24 < 8388608) (kk : ∀ (H1 : Heap) (locs1 : List Loc) (S1 : kS) (M1 : kO) (τ1 : Nat), va_P D kcl (kw cI cZ ad S1) H1 → va_S (lcS s) s.heap H1 locs1 → kBoth S1 M1 τ1 → τ1 ≤ τ + 24 → W p l e room_1 s m args below meth c H1 locs1 600000 7302250 Q (F0 m 698 ls [])) : W p l e room_1 s m args below meth c H locs 600000 7302250 Q (F0 m 128 ls []) := by
  refine lv_aload_n X.1.1 X.1.2.1 dl_128 rfl (lv_at hl 2 rfl) ?_
  refine lc_arg (k := 1) X.1.1 X.1.2.1 hl X.2.1 X.2.2.1 (Nat.not_le.mpr X.2.2.1) hS dl_129 dl_130 dl_131 (by decide) dl_132 dl_133 (hin 1 (by decide)) ?_
  refine lc_call (d := 72) (o := 0) (k := 0) (n := 1) (as := [.inl (xs (i + 1).toNatClampNeg)]) (rest := []) X.1 dl_134 kl_L_13 k_im_2 k_se_2 kok_2 rfl (by decide +kernel) rfl rfl (by decide) (by decide) (by decide) (by decide) X.2.2.2.2.1 X.2.2.2.1 rfl rfl (ls_typeVariable hB hτ) hl.1 (Nat.le_of_ble_eq_true rfl) hP hS X.2.2.2.2.2 (fun r1 S1 H1 locs1 hF hP hS => ?_)
  obtain ⟨e1, hr1, τ1, ht1, hc1⟩ := hF
  refine lv_aload_n X.1.1 X.1.2.1 dl_137 rfl (lv_at hl 1 rfl) ?_
  refine lc_arg (k := 1) X.1.1 X.1.2.1 hl X.2.1 X.2.2.1 (Nat.not_le.mpr X.2.2.1) hS dl_138 dl_139 dl_140 (by decide) dl_141 dl_142 (hin 1 (by decide)) ?_
  refine lc_call (d := 9) (o := 39) (k := 8) (n := 1) (as := [.inl (xs (i + 1).toNatClampNeg)]) (rest := [.int r1]) X.1 dl_143 kl_L_17 k_im_92 k_se_92 kok_92 rfl (by decide +kernel) rfl rfl (by decide) (by decide) (by decide) (by decide) X.2.2.2.2.1 X.2.2.2.1 rfl rfl (lt_typeVariable hr1 hc1 hB.2.2) hl.1 (Nat.le_of_ble_eq_true rfl) hP hS X.2.2.2.2.2 (fun r2 S2 H2 locs2 hF hP hS => ?_)
  obtain ⟨e2, hB2⟩ := hF
  exact lv_icmp_eq (tgt := 698) X.1.1 X.1.2.1 dl_146 (by decide) (fun _ => kk H2 locs2 S2 _ τ1 hP hS hB2 ht1) (fun hn => absurd (e1.trans e2.symm) hn)
set_option maxHeartbeats 4000000 in
theorem lc_case_1 (X : lcX p s m args c b L xs D cI cZ ad) (hl : lv_has ls 4 (lcl b ad i)) (hin : ∀ k : Nat, k < 5 → vp_in (i + Int32.ofNat k) L) (hP : va_P D kcl (kw cI cZ ad S) H) (hS : va_S (lcS s) s.heap H locs) (hB : kBoth S M τ) (hτ : τ + 24 < 8388608) (kk : ∀ (H1 : Heap) (locs1 : List Loc) (S1 : kS) (M1 : kO) (τ1 : Nat), va_P D kcl (kw cI cZ ad S1) H1 → va_S (lcS s) s.heap H1 locs1 → kBoth S1 M1 τ1 → τ1 ≤ τ + 24 → W p l e room_1 s m args below meth c H1 locs1 600000 7302250 Q (F0 m 698 ls [])) : W p l e room_1 s m args below meth c H locs 600000 7302250 Q (F0 m 151 ls []) := by
  refine lv_aload_n X.1.1 X.1.2.1 dl_151 rfl (lv_at hl 2 rfl) ?_
  refine lc_arg (k := 1) X.1.1 X.1.2.1 hl X.2.1 X.2.2.1 (Nat.not_le.mpr X.2.2.1) hS dl_152 dl_153 dl_154 (by decide) dl_155 dl_156 (hin 1 (by decide)) ?_
  refine lc_arg (k := 2) X.1.1 X.1.2.1 hl X.2.1 X.2.2.1 (Nat.not_le.mpr X.2.2.1) hS dl_157 dl_158 dl_159 (by decide) dl_160 dl_161 (hin 2 (by decide)) ?_
  refine lc_call (d := 72) (o := 0) (k := 0) (n := 2) (as := [.inl (xs (i + 1).toNatClampNeg), .inl (xs (i + 2).toNatClampNeg)]) (rest := []) X.1 dl_162 kl_L_18 k_im_8 k_se_8 kok_8 rfl (by decide +kernel) rfl rfl (by decide) (by decide) (by decide) (by decide) X.2.2.2.2.1 X.2.2.2.1 rfl rfl (ls_arrow hB hτ) hl.1 (Nat.le_of_ble_eq_true rfl) hP hS X.2.2.2.2.2 (fun r1 S1 H1 locs1 hF hP hS => ?_)
  obtain ⟨e1, hr1, τ1, ht1, hc1⟩ := hF
  refine lv_aload_n X.1.1 X.1.2.1 dl_165 rfl (lv_at hl 1 rfl) ?_
  refine lc_arg (k := 1) X.1.1 X.1.2.1 hl X.2.1 X.2.2.1 (Nat.not_le.mpr X.2.2.1) hS dl_166 dl_167 dl_168 (by decide) dl_169 dl_170 (hin 1 (by decide)) ?_
  refine lc_arg (k := 2) X.1.1 X.1.2.1 hl X.2.1 X.2.2.1 (Nat.not_le.mpr X.2.2.1) hS dl_171 dl_172 dl_173 (by decide) dl_174 dl_175 (hin 2 (by decide)) ?_
  refine lc_call (d := 9) (o := 39) (k := 8) (n := 2) (as := [.inl (xs (i + 1).toNatClampNeg), .inl (xs (i + 2).toNatClampNeg)]) (rest := [.int r1]) X.1 dl_176 kl_L_22 k_im_98 k_se_98 kok_98 rfl (by decide +kernel) rfl rfl (by decide) (by decide) (by decide) (by decide) X.2.2.2.2.1 X.2.2.2.1 rfl rfl (lt_arrow hr1 hc1 hB.2.2) hl.1 (Nat.le_of_ble_eq_true rfl) hP hS X.2.2.2.2.2 (fun r2 S2 H2 locs2 hF hP hS => ?_)
  obtain ⟨e2, hB2⟩ := hF
  exact lv_icmp_eq (tgt := 698) X.1.1 X.1.2.1 dl_179 (by decide) (fun _ => kk H2 locs2 S2 _ τ1 hP hS hB2 ht1) (fun hn => absurd (e1.trans e2.symm) hn)
set_option maxHeartbeats 4000000 in
theorem lc_case_2 (X : lcX p s m args c b L xs D cI cZ ad) (hl : lv_has ls 4 (lcl b ad i)) (hin : ∀ k : Nat, k < 5 → vp_in (i + Int32.ofNat k) L) (hP : va_P D kcl (kw cI cZ ad S) H) (hS : va_S (lcS s) s.heap H locs) (hB : kBoth S M τ) (hτ : τ + 24 < 8388608) (kk : ∀ (H1 : Heap) (locs1 : List Loc) (S1 : kS) (M1 : kO) (τ1 : Nat), va_P D kcl (kw cI cZ ad S1) H1 → va_S (lcS s) s.heap H1 locs1 → kBoth S1 M1 τ1 → τ1 ≤ τ + 24 → W p l e room_1 s m args below meth c H1 locs1 600000 7302250 Q (F0 m 698 ls [])) : W p l e room_1 s m args below meth c H locs 600000 7302250 Q (F0 m 184 ls []) := by
  refine lv_aload_n X.1.1 X.1.2.1 dl_184 rfl (lv_at hl 2 rfl) ?_
  refine lc_arg (k := 1) X.1.1 X.1.2.1 hl X.2.1 X.2.2.1 (Nat.not_le.mpr X.2.2.1) hS dl_185 dl_186 dl_187 (by decide) dl_188 dl_189 (hin 1 (by decide)) ?_
  refine lc_arg (k := 2) X.1.1 X.1.2.1 hl X.2.1 X.2.2.1 (Nat.not_le.mpr X.2.2.1) hS dl_190 dl_191 dl_192 (by decide) dl_193 dl_194 (hin 2 (by decide)) ?_
  refine lc_call (d := 72) (o := 0) (k := 0) (n := 2) (as := [.inl (xs (i + 1).toNatClampNeg), .inl (xs (i + 2).toNatClampNeg)]) (rest := []) X.1 dl_195 kl_L_23 k_im_10 k_se_10 kok_10 rfl (by decide +kernel) rfl rfl (by decide) (by decide) (by decide) (by decide) X.2.2.2.2.1 X.2.2.2.1 rfl rfl (ls_variable hB hτ) hl.1 (Nat.le_of_ble_eq_true rfl) hP hS X.2.2.2.2.2 (fun r1 S1 H1 locs1 hF hP hS => ?_)
  obtain ⟨e1, hr1, τ1, ht1, hc1⟩ := hF
  refine lv_aload_n X.1.1 X.1.2.1 dl_198 rfl (lv_at hl 1 rfl) ?_
  refine lc_arg (k := 1) X.1.1 X.1.2.1 hl X.2.1 X.2.2.1 (Nat.not_le.mpr X.2.2.1) hS dl_199 dl_200 dl_201 (by decide) dl_202 dl_203 (hin 1 (by decide)) ?_
  refine lc_arg (k := 2) X.1.1 X.1.2.1 hl X.2.1 X.2.2.1 (Nat.not_le.mpr X.2.2.1) hS dl_204 dl_205 dl_206 (by decide) dl_207 dl_208 (hin 2 (by decide)) ?_
  refine lc_call (d := 9) (o := 39) (k := 8) (n := 2) (as := [.inl (xs (i + 1).toNatClampNeg), .inl (xs (i + 2).toNatClampNeg)]) (rest := [.int r1]) X.1 dl_209 kl_L_26 k_im_100 k_se_100 kok_100 rfl (by decide +kernel) rfl rfl (by decide) (by decide) (by decide) (by decide) X.2.2.2.2.1 X.2.2.2.1 rfl rfl (lt_variable hr1 hc1 hB.2.2) hl.1 (Nat.le_of_ble_eq_true rfl) hP hS X.2.2.2.2.2 (fun r2 S2 H2 locs2 hF hP hS => ?_)
  obtain ⟨e2, hB2⟩ := hF
  exact lv_icmp_eq (tgt := 698) X.1.1 X.1.2.1 dl_212 (by decide) (fun _ => kk H2 locs2 S2 _ τ1 hP hS hB2 ht1) (fun hn => absurd (e1.trans e2.symm) hn)
set_option maxHeartbeats 4000000 in
theorem lc_case_3 (X : lcX p s m args c b L xs D cI cZ ad) (hl : lv_has ls 4 (lcl b ad i)) (hin : ∀ k : Nat, k < 5 → vp_in (i + Int32.ofNat k) L) (hP : va_P D kcl (kw cI cZ ad S) H) (hS : va_S (lcS s) s.heap H locs) (hB : kBoth S M τ) (hτ : τ + 24 < 8388608) (kk : ∀ (H1 : Heap) (locs1 : List Loc) (S1 : kS) (M1 : kO) (τ1 : Nat), va_P D kcl (kw cI cZ ad S1) H1 → va_S (lcS s) s.heap H1 locs1 → kBoth S1 M1 τ1 → τ1 ≤ τ + 24 → W p l e room_1 s m args below meth c H1 locs1 600000 7302250 Q (F0 m 698 ls [])) : W p l e room_1 s m args below meth c H locs 600000 7302250 Q (F0 m 217 ls []) := by
  refine lv_aload_n X.1.1 X.1.2.1 dl_217 rfl (lv_at hl 2 rfl) ?_
  refine lc_arg (k := 1) X.1.1 X.1.2.1 hl X.2.1 X.2.2.1 (Nat.not_le.mpr X.2.2.1) hS dl_218 dl_219 dl_220 (by decide) dl_221 dl_222 (hin 1 (by decide)) ?_
  refine lc_call (d := 72) (o := 0) (k := 0) (n := 1) (as := [.inl (xs (i + 1).toNatClampNeg)]) (rest := []) X.1 dl_223 kl_L_27 k_im_13 k_se_13 kok_13 rfl (by decide +kernel) rfl rfl (by decide) (by decide) (by decide) (by decide) X.2.2.2.2.1 X.2.2.2.1 rfl rfl (ls_equality hB hτ) hl.1 (Nat.le_of_ble_eq_true rfl) hP hS X.2.2.2.2.2 (fun r1 S1 H1 locs1 hF hP hS => ?_)
  obtain ⟨e1, hr1, τ1, ht1, hc1⟩ := hF
  refine lv_aload_n X.1.1 X.1.2.1 dl_226 rfl (lv_at hl 1 rfl) ?_
  refine lc_arg (k := 1) X.1.1 X.1.2.1 hl X.2.1 X.2.2.1 (Nat.not_le.mpr X.2.2.1) hS dl_227 dl_228 dl_229 (by decide) dl_230 dl_231 (hin 1 (by decide)) ?_
  refine lc_call (d := 9) (o := 39) (k := 8) (n := 1) (as := [.inl (xs (i + 1).toNatClampNeg)]) (rest := [.int r1]) X.1 dl_232 kl_L_30 k_im_104 k_se_104 kok_104 rfl (by decide +kernel) rfl rfl (by decide) (by decide) (by decide) (by decide) X.2.2.2.2.1 X.2.2.2.1 rfl rfl (lt_equality hr1 hc1 hB.2.2) hl.1 (Nat.le_of_ble_eq_true rfl) hP hS X.2.2.2.2.2 (fun r2 S2 H2 locs2 hF hP hS => ?_)
  obtain ⟨e2, hB2⟩ := hF
  exact lv_icmp_eq (tgt := 698) X.1.1 X.1.2.1 dl_235 (by decide) (fun _ => kk H2 locs2 S2 _ τ1 hP hS hB2 ht1) (fun hn => absurd (e1.trans e2.symm) hn)
set_option maxHeartbeats 4000000 in
theorem lc_case_4 (X : lcX p s m args c b L xs D cI cZ ad) (hl : lv_has ls 4 (lcl b ad i)) (hin : ∀ k : Nat, k < 5 → vp_in (i + Int32.ofNat k) L) (hP : va_P D kcl (kw cI cZ ad S) H) (hS : va_S (lcS s) s.heap H locs) (hB : kBoth S M τ) (hτ : τ + 24 < 8388608) (kk : ∀ (H1 : Heap) (locs1 : List Loc) (S1 : kS) (M1 : kO) (τ1 : Nat), va_P D kcl (kw cI cZ ad S1) H1 → va_S (lcS s) s.heap H1 locs1 → kBoth S1 M1 τ1 → τ1 ≤ τ + 24 → W p l e room_1 s m args below meth c H1 locs1 600000 7302250 Q (F0 m 698 ls [])) : W p l e room_1 s m args below meth c H locs 600000 7302250 Q (F0 m 240 ls []) := by
  refine lv_aload_n X.1.1 X.1.2.1 dl_240 rfl (lv_at hl 2 rfl) ?_
  refine lc_arg (k := 1) X.1.1 X.1.2.1 hl X.2.1 X.2.2.1 (Nat.not_le.mpr X.2.2.1) hS dl_241 dl_242 dl_243 (by decide) dl_244 dl_245 (hin 1 (by decide)) ?_
  refine lc_arg (k := 2) X.1.1 X.1.2.1 hl X.2.1 X.2.2.1 (Nat.not_le.mpr X.2.2.1) hS dl_246 dl_247 dl_248 (by decide) dl_249 dl_250 (hin 2 (by decide)) ?_
  refine lc_call (d := 72) (o := 0) (k := 0) (n := 2) (as := [.inl (xs (i + 1).toNatClampNeg), .inl (xs (i + 2).toNatClampNeg)]) (rest := []) X.1 dl_251 kl_L_31 k_im_15 k_se_15 kok_15 rfl (by decide +kernel) rfl rfl (by decide) (by decide) (by decide) (by decide) X.2.2.2.2.1 X.2.2.2.1 rfl rfl (ls_apply hB hτ) hl.1 (Nat.le_of_ble_eq_true rfl) hP hS X.2.2.2.2.2 (fun r1 S1 H1 locs1 hF hP hS => ?_)
  obtain ⟨e1, hr1, τ1, ht1, hc1⟩ := hF
  refine lv_aload_n X.1.1 X.1.2.1 dl_254 rfl (lv_at hl 1 rfl) ?_
  refine lc_arg (k := 1) X.1.1 X.1.2.1 hl X.2.1 X.2.2.1 (Nat.not_le.mpr X.2.2.1) hS dl_255 dl_256 dl_257 (by decide) dl_258 dl_259 (hin 1 (by decide)) ?_
  refine lc_arg (k := 2) X.1.1 X.1.2.1 hl X.2.1 X.2.2.1 (Nat.not_le.mpr X.2.2.1) hS dl_260 dl_261 dl_262 (by decide) dl_263 dl_264 (hin 2 (by decide)) ?_
  refine lc_call (d := 9) (o := 39) (k := 8) (n := 2) (as := [.inl (xs (i + 1).toNatClampNeg), .inl (xs (i + 2).toNatClampNeg)]) (rest := [.int r1]) X.1 dl_265 kl_L_34 k_im_106 k_se_106 kok_106 rfl (by decide +kernel) rfl rfl (by decide) (by decide) (by decide) (by decide) X.2.2.2.2.1 X.2.2.2.1 rfl rfl (lt_apply hr1 hc1 hB.2.2) hl.1 (Nat.le_of_ble_eq_true rfl) hP hS X.2.2.2.2.2 (fun r2 S2 H2 locs2 hF hP hS => ?_)
  obtain ⟨e2, hB2⟩ := hF
  exact lv_icmp_eq (tgt := 698) X.1.1 X.1.2.1 dl_268 (by decide) (fun _ => kk H2 locs2 S2 _ τ1 hP hS hB2 ht1) (fun hn => absurd (e1.trans e2.symm) hn)
set_option maxHeartbeats 4000000 in
theorem lc_case_5 (X : lcX p s m args c b L xs D cI cZ ad) (hl : lv_has ls 4 (lcl b ad i)) (hin : ∀ k : Nat, k < 5 → vp_in (i + Int32.ofNat k) L) (hP : va_P D kcl (kw cI cZ ad S) H) (hS : va_S (lcS s) s.heap H locs) (hB : kBoth S M τ) (hτ : τ + 24 < 8388608) (kk : ∀ (H1 : Heap) (locs1 : List Loc) (S1 : kS) (M1 : kO) (τ1 : Nat), va_P D kcl (kw cI cZ ad S1) H1 → va_S (lcS s) s.heap H1 locs1 → kBoth S1 M1 τ1 → τ1 ≤ τ + 24 → W p l e room_1 s m args below meth c H1 locs1 600000 7302250 Q (F0 m 698 ls [])) : W p l e room_1 s m args below meth c H locs 600000 7302250 Q (F0 m 273 ls []) := by
  refine lv_aload_n X.1.1 X.1.2.1 dl_273 rfl (lv_at hl 2 rfl) ?_
  refine lc_arg (k := 1) X.1.1 X.1.2.1 hl X.2.1 X.2.2.1 (Nat.not_le.mpr X.2.2.1) hS dl_274 dl_275 dl_276 (by decide) dl_277 dl_278 (hin 1 (by decide)) ?_
  refine lc_arg (k := 2) X.1.1 X.1.2.1 hl X.2.1 X.2.2.1 (Nat.not_le.mpr X.2.2.1) hS dl_279 dl_280 dl_281 (by decide) dl_282 dl_283 (hin 2 (by decide)) ?_
  refine lc_call (d := 72) (o := 0) (k := 0) (n := 2) (as := [.inl (xs (i + 1).toNatClampNeg), .inl (xs (i + 2).toNatClampNeg)]) (rest := []) X.1 dl_284 kl_L_35 k_im_18 k_se_18 kok_18 rfl (by decide +kernel) rfl rfl (by decide) (by decide) (by decide) (by decide) X.2.2.2.2.1 X.2.2.2.1 rfl rfl (ls_lambda hB hτ) hl.1 (Nat.le_of_ble_eq_true rfl) hP hS X.2.2.2.2.2 (fun r1 S1 H1 locs1 hF hP hS => ?_)
  obtain ⟨e1, hr1, τ1, ht1, hc1⟩ := hF
  refine lv_aload_n X.1.1 X.1.2.1 dl_287 rfl (lv_at hl 1 rfl) ?_
  refine lc_arg (k := 1) X.1.1 X.1.2.1 hl X.2.1 X.2.2.1 (Nat.not_le.mpr X.2.2.1) hS dl_288 dl_289 dl_290 (by decide) dl_291 dl_292 (hin 1 (by decide)) ?_
  refine lc_arg (k := 2) X.1.1 X.1.2.1 hl X.2.1 X.2.2.1 (Nat.not_le.mpr X.2.2.1) hS dl_293 dl_294 dl_295 (by decide) dl_296 dl_297 (hin 2 (by decide)) ?_
  refine lc_call (d := 9) (o := 39) (k := 8) (n := 2) (as := [.inl (xs (i + 1).toNatClampNeg), .inl (xs (i + 2).toNatClampNeg)]) (rest := [.int r1]) X.1 dl_298 kl_L_38 k_im_110 k_se_110 kok_110 rfl (by decide +kernel) rfl rfl (by decide) (by decide) (by decide) (by decide) X.2.2.2.2.1 X.2.2.2.1 rfl rfl (lt_lambda hr1 hc1 hB.2.2) hl.1 (Nat.le_of_ble_eq_true rfl) hP hS X.2.2.2.2.2 (fun r2 S2 H2 locs2 hF hP hS => ?_)
  obtain ⟨e2, hB2⟩ := hF
  exact lv_icmp_eq (tgt := 698) X.1.1 X.1.2.1 dl_301 (by decide) (fun _ => kk H2 locs2 S2 _ τ1 hP hS hB2 ht1) (fun hn => absurd (e1.trans e2.symm) hn)
set_option maxHeartbeats 4000000 in
theorem lc_case_6 (X : lcX p s m args c b L xs D cI cZ ad) (hl : lv_has ls 4 (lcl b ad i)) (hin : ∀ k : Nat, k < 5 → vp_in (i + Int32.ofNat k) L) (hP : va_P D kcl (kw cI cZ ad S) H) (hS : va_S (lcS s) s.heap H locs) (hB : kBoth S M τ) (hτ : τ + 24 < 8388608) (kk : ∀ (H1 : Heap) (locs1 : List Loc) (S1 : kS) (M1 : kO) (τ1 : Nat), va_P D kcl (kw cI cZ ad S1) H1 → va_S (lcS s) s.heap H1 locs1 → kBoth S1 M1 τ1 → τ1 ≤ τ + 24 → W p l e room_1 s m args below meth c H1 locs1 600000 7302250 Q (F0 m 698 ls [])) : W p l e room_1 s m args below meth c H locs 600000 7302250 Q (F0 m 306 ls []) := by
  refine lv_aload_n X.1.1 X.1.2.1 dl_306 rfl (lv_at hl 2 rfl) ?_
  refine lc_arg (k := 1) X.1.1 X.1.2.1 hl X.2.1 X.2.2.1 (Nat.not_le.mpr X.2.2.1) hS dl_307 dl_308 dl_309 (by decide) dl_310 dl_311 (hin 1 (by decide)) ?_
  refine lc_arg (k := 2) X.1.1 X.1.2.1 hl X.2.1 X.2.2.1 (Nat.not_le.mpr X.2.2.1) hS dl_312 dl_313 dl_314 (by decide) dl_315 dl_316 (hin 2 (by decide)) ?_
  refine lc_arg (k := 3) X.1.1 X.1.2.1 hl X.2.1 X.2.2.1 (Nat.not_le.mpr X.2.2.1) hS dl_317 dl_318 dl_319 (by decide) dl_320 dl_321 (hin 3 (by decide)) ?_
  refine lc_arg (k := 4) X.1.1 X.1.2.1 hl X.2.1 X.2.2.1 (Nat.not_le.mpr X.2.2.1) hS dl_322 dl_323 dl_324 (by decide) dl_325 dl_326 (hin 4 (by decide)) ?_
  refine lc_call (d := 72) (o := 0) (k := 0) (n := 4) (as := [.inl (xs (i + 1).toNatClampNeg), .inl (xs (i + 2).toNatClampNeg), .inl (xs (i + 3).toNatClampNeg), .inl (xs (i + 4).toNatClampNeg)]) (rest := []) X.1 dl_327 kl_L_39 k_im_28 k_se_28 kok_28 rfl (by decide +kernel) rfl rfl (by decide) (by decide) (by decide) (by decide) X.2.2.2.2.1 X.2.2.2.1 rfl rfl (ls_rule hB hτ) hl.1 (Nat.le_of_ble_eq_true rfl) hP hS X.2.2.2.2.2 (fun r1 S1 H1 locs1 hF hP hS => ?_)
  obtain ⟨e1, hr1, τ1, ht1, hc1⟩ := hF
  refine lv_aload_n X.1.1 X.1.2.1 dl_330 rfl (lv_at hl 1 rfl) ?_
  refine lc_arg (k := 1) X.1.1 X.1.2.1 hl X.2.1 X.2.2.1 (Nat.not_le.mpr X.2.2.1) hS dl_331 dl_332 dl_333 (by decide) dl_334 dl_335 (hin 1 (by decide)) ?_
  refine lc_arg (k := 2) X.1.1 X.1.2.1 hl X.2.1 X.2.2.1 (Nat.not_le.mpr X.2.2.1) hS dl_336 dl_337 dl_338 (by decide) dl_339 dl_340 (hin 2 (by decide)) ?_
  refine lc_arg (k := 3) X.1.1 X.1.2.1 hl X.2.1 X.2.2.1 (Nat.not_le.mpr X.2.2.1) hS dl_341 dl_342 dl_343 (by decide) dl_344 dl_345 (hin 3 (by decide)) ?_
  refine lc_arg (k := 4) X.1.1 X.1.2.1 hl X.2.1 X.2.2.1 (Nat.not_le.mpr X.2.2.1) hS dl_346 dl_347 dl_348 (by decide) dl_349 dl_350 (hin 4 (by decide)) ?_
  refine lc_call (d := 9) (o := 39) (k := 8) (n := 4) (as := [.inl (xs (i + 1).toNatClampNeg), .inl (xs (i + 2).toNatClampNeg), .inl (xs (i + 3).toNatClampNeg), .inl (xs (i + 4).toNatClampNeg)]) (rest := [.int r1]) X.1 dl_351 kl_L_43 k_im_117 k_se_117 kok_117 rfl (by decide +kernel) rfl rfl (by decide) (by decide) (by decide) (by decide) X.2.2.2.2.1 X.2.2.2.1 rfl rfl (lt_rule hr1 hc1 hB.2.2) hl.1 (Nat.le_of_ble_eq_true rfl) hP hS X.2.2.2.2.2 (fun r2 S2 H2 locs2 hF hP hS => ?_)
  obtain ⟨e2, hB2⟩ := hF
  exact lv_icmp_eq (tgt := 698) X.1.1 X.1.2.1 dl_354 (by decide) (fun _ => kk H2 locs2 S2 _ τ1 hP hS hB2 ht1) (fun hn => absurd (e1.trans e2.symm) hn)
set_option maxHeartbeats 4000000 in
theorem lc_case_7 (X : lcX p s m args c b L xs D cI cZ ad) (hl : lv_has ls 4 (lcl b ad i)) (hin : ∀ k : Nat, k < 5 → vp_in (i + Int32.ofNat k) L) (hP : va_P D kcl (kw cI cZ ad S) H) (hS : va_S (lcS s) s.heap H locs) (hB : kBoth S M τ) (hτ : τ + 24 < 8388608) (kk : ∀ (H1 : Heap) (locs1 : List Loc) (S1 : kS) (M1 : kO) (τ1 : Nat), va_P D kcl (kw cI cZ ad S1) H1 → va_S (lcS s) s.heap H1 locs1 → kBoth S1 M1 τ1 → τ1 ≤ τ + 24 → W p l e room_1 s m args below meth c H1 locs1 600000 7302250 Q (F0 m 698 ls [])) : W p l e room_1 s m args below meth c H locs 600000 7302250 Q (F0 m 359 ls []) := by
  refine lv_aload_n X.1.1 X.1.2.1 dl_359 rfl (lv_at hl 2 rfl) ?_
  refine lc_arg (k := 1) X.1.1 X.1.2.1 hl X.2.1 X.2.2.1 (Nat.not_le.mpr X.2.2.1) hS dl_360 dl_361 dl_362 (by decide) dl_363 dl_364 (hin 1 (by decide)) ?_
  refine lc_call (d := 72) (o := 0) (k := 0) (n := 1) (as := [.inl (xs (i + 1).toNatClampNeg)]) (rest := []) X.1 dl_365 kl_L_44 k_im_69 k_se_69 kok_69 rfl (by decide +kernel) rfl rfl (by decide) (by decide) (by decide) (by decide) X.2.2.2.2.1 X.2.2.2.1 rfl rfl (ls_define hB hτ) hl.1 (Nat.le_of_ble_eq_true rfl) hP hS X.2.2.2.2.2 (fun r1 S1 H1 locs1 hF hP hS => ?_)
  obtain ⟨e1, hr1, τ1, ht1, hc1⟩ := hF
  refine lv_aload_n X.1.1 X.1.2.1 dl_368 rfl (lv_at hl 1 rfl) ?_
  refine lc_arg (k := 1) X.1.1 X.1.2.1 hl X.2.1 X.2.2.1 (Nat.not_le.mpr X.2.2.1) hS dl_369 dl_370 dl_371 (by decide) dl_372 dl_373 (hin 1 (by decide)) ?_
  refine lc_call (d := 9) (o := 39) (k := 8) (n := 1) (as := [.inl (xs (i + 1).toNatClampNeg)]) (rest := [.int r1]) X.1 dl_374 kl_L_47 k_im_131 k_se_131 kok_131 rfl (by decide +kernel) rfl rfl (by decide) (by decide) (by decide) (by decide) X.2.2.2.2.1 X.2.2.2.1 rfl rfl (lt_define hr1 hc1 hB.2.2) hl.1 (Nat.le_of_ble_eq_true rfl) hP hS X.2.2.2.2.2 (fun r2 S2 H2 locs2 hF hP hS => ?_)
  obtain ⟨e2, hB2⟩ := hF
  exact lv_icmp_eq (tgt := 698) X.1.1 X.1.2.1 dl_377 (by decide) (fun _ => kk H2 locs2 S2 _ τ1 hP hS hB2 ht1) (fun hn => absurd (e1.trans e2.symm) hn)
set_option maxHeartbeats 4000000 in
theorem lc_case_8 (X : lcX p s m args c b L xs D cI cZ ad) (hl : lv_has ls 4 (lcl b ad i)) (hin : ∀ k : Nat, k < 5 → vp_in (i + Int32.ofNat k) L) (hP : va_P D kcl (kw cI cZ ad S) H) (hS : va_S (lcS s) s.heap H locs) (hB : kBoth S M τ) (hτ : τ + 24 < 8388608) (kk : ∀ (H1 : Heap) (locs1 : List Loc) (S1 : kS) (M1 : kO) (τ1 : Nat), va_P D kcl (kw cI cZ ad S1) H1 → va_S (lcS s) s.heap H1 locs1 → kBoth S1 M1 τ1 → τ1 ≤ τ + 24 → W p l e room_1 s m args below meth c H1 locs1 600000 7302250 Q (F0 m 698 ls [])) : W p l e room_1 s m args below meth c H locs 600000 7302250 Q (F0 m 382 ls []) := by
  refine lv_aload_n X.1.1 X.1.2.1 dl_382 rfl (lv_at hl 2 rfl) ?_
  refine lc_arg (k := 1) X.1.1 X.1.2.1 hl X.2.1 X.2.2.1 (Nat.not_le.mpr X.2.2.1) hS dl_383 dl_384 dl_385 (by decide) dl_386 dl_387 (hin 1 (by decide)) ?_
  refine lc_call (d := 72) (o := 0) (k := 0) (n := 1) (as := [.inl (xs (i + 1).toNatClampNeg)]) (rest := []) X.1 dl_388 kl_L_48 k_im_71 k_se_71 kok_71 rfl (by decide +kernel) rfl rfl (by decide) (by decide) (by decide) (by decide) X.2.2.2.2.1 X.2.2.2.1 rfl rfl (ls_defineType hB hτ) hl.1 (Nat.le_of_ble_eq_true rfl) hP hS X.2.2.2.2.2 (fun r1 S1 H1 locs1 hF hP hS => ?_)
  obtain ⟨e1, hr1, τ1, ht1, hc1⟩ := hF
  refine lv_aload_n X.1.1 X.1.2.1 dl_391 rfl (lv_at hl 1 rfl) ?_
  refine lc_arg (k := 1) X.1.1 X.1.2.1 hl X.2.1 X.2.2.1 (Nat.not_le.mpr X.2.2.1) hS dl_392 dl_393 dl_394 (by decide) dl_395 dl_396 (hin 1 (by decide)) ?_
  refine lc_call (d := 9) (o := 39) (k := 8) (n := 1) (as := [.inl (xs (i + 1).toNatClampNeg)]) (rest := [.int r1]) X.1 dl_397 kl_L_51 k_im_133 k_se_133 kok_133 rfl (by decide +kernel) rfl rfl (by decide) (by decide) (by decide) (by decide) X.2.2.2.2.1 X.2.2.2.1 rfl rfl (lt_defineType hr1 hc1 hB.2.2) hl.1 (Nat.le_of_ble_eq_true rfl) hP hS X.2.2.2.2.2 (fun r2 S2 H2 locs2 hF hP hS => ?_)
  obtain ⟨e2, hB2⟩ := hF
  exact lv_icmp_eq (tgt := 698) X.1.1 X.1.2.1 dl_400 (by decide) (fun _ => kk H2 locs2 S2 _ τ1 hP hS hB2 ht1) (fun hn => absurd (e1.trans e2.symm) hn)
set_option maxHeartbeats 4000000 in
theorem lc_case_9 (X : lcX p s m args c b L xs D cI cZ ad) (hl : lv_has ls 4 (lcl b ad i)) (hin : ∀ k : Nat, k < 5 → vp_in (i + Int32.ofNat k) L) (hP : va_P D kcl (kw cI cZ ad S) H) (hS : va_S (lcS s) s.heap H locs) (hB : kBoth S M τ) (hτ : τ + 24 < 8388608) (kk : ∀ (H1 : Heap) (locs1 : List Loc) (S1 : kS) (M1 : kO) (τ1 : Nat), va_P D kcl (kw cI cZ ad S1) H1 → va_S (lcS s) s.heap H1 locs1 → kBoth S1 M1 τ1 → τ1 ≤ τ + 24 → W p l e room_1 s m args below meth c H1 locs1 600000 7302250 Q (F0 m 698 ls [])) : W p l e room_1 s m args below meth c H locs 600000 7302250 Q (F0 m 405 ls []) := by
  refine lv_aload_n X.1.1 X.1.2.1 dl_405 rfl (lv_at hl 2 rfl) ?_
  refine lc_arg (k := 1) X.1.1 X.1.2.1 hl X.2.1 X.2.2.1 (Nat.not_le.mpr X.2.2.1) hS dl_406 dl_407 dl_408 (by decide) dl_409 dl_410 (hin 1 (by decide)) ?_
  refine lc_arg (k := 2) X.1.1 X.1.2.1 hl X.2.1 X.2.2.1 (Nat.not_le.mpr X.2.2.1) hS dl_411 dl_412 dl_413 (by decide) dl_414 dl_415 (hin 2 (by decide)) ?_
  refine lc_arg (k := 3) X.1.1 X.1.2.1 hl X.2.1 X.2.2.1 (Nat.not_le.mpr X.2.2.1) hS dl_416 dl_417 dl_418 (by decide) dl_419 dl_420 (hin 3 (by decide)) ?_
  refine lc_arg (k := 4) X.1.1 X.1.2.1 hl X.2.1 X.2.2.1 (Nat.not_le.mpr X.2.2.1) hS dl_421 dl_422 dl_423 (by decide) dl_424 dl_425 (hin 4 (by decide)) ?_
  refine lc_call (d := 72) (o := 0) (k := 0) (n := 4) (as := [.inl (xs (i + 1).toNatClampNeg), .inl (xs (i + 2).toNatClampNeg), .inl (xs (i + 3).toNatClampNeg), .inl (xs (i + 4).toNatClampNeg)]) (rest := []) X.1 dl_426 kl_L_52 k_im_73 k_se_73 kok_73 rfl (by decide +kernel) rfl rfl (by decide) (by decide) (by decide) (by decide) X.2.2.2.2.1 X.2.2.2.1 rfl rfl (ls_line hB hτ) hl.1 (Nat.le_of_ble_eq_true rfl) hP hS X.2.2.2.2.2 (fun r1 S1 H1 locs1 hF hP hS => ?_)
  obtain ⟨e1, hr1, τ1, ht1, hc1⟩ := hF
  refine lv_aload_n X.1.1 X.1.2.1 dl_429 rfl (lv_at hl 1 rfl) ?_
  refine lc_arg (k := 1) X.1.1 X.1.2.1 hl X.2.1 X.2.2.1 (Nat.not_le.mpr X.2.2.1) hS dl_430 dl_431 dl_432 (by decide) dl_433 dl_434 (hin 1 (by decide)) ?_
  refine lc_arg (k := 2) X.1.1 X.1.2.1 hl X.2.1 X.2.2.1 (Nat.not_le.mpr X.2.2.1) hS dl_435 dl_436 dl_437 (by decide) dl_438 dl_439 (hin 2 (by decide)) ?_
  refine lc_arg (k := 3) X.1.1 X.1.2.1 hl X.2.1 X.2.2.1 (Nat.not_le.mpr X.2.2.1) hS dl_440 dl_441 dl_442 (by decide) dl_443 dl_444 (hin 3 (by decide)) ?_
  refine lc_arg (k := 4) X.1.1 X.1.2.1 hl X.2.1 X.2.2.1 (Nat.not_le.mpr X.2.2.1) hS dl_445 dl_446 dl_447 (by decide) dl_448 dl_449 (hin 4 (by decide)) ?_
  refine lc_call (d := 9) (o := 39) (k := 8) (n := 4) (as := [.inl (xs (i + 1).toNatClampNeg), .inl (xs (i + 2).toNatClampNeg), .inl (xs (i + 3).toNatClampNeg), .inl (xs (i + 4).toNatClampNeg)]) (rest := [.int r1]) X.1 dl_450 kl_L_55 k_im_135 k_se_135 kok_135 rfl (by decide +kernel) rfl rfl (by decide) (by decide) (by decide) (by decide) X.2.2.2.2.1 X.2.2.2.1 rfl rfl (lt_line hr1 hc1 hB.2.2) hl.1 (Nat.le_of_ble_eq_true rfl) hP hS X.2.2.2.2.2 (fun r2 S2 H2 locs2 hF hP hS => ?_)
  obtain ⟨e2, hB2⟩ := hF
  exact lv_icmp_eq (tgt := 698) X.1.1 X.1.2.1 dl_453 (by decide) (fun _ => kk H2 locs2 S2 _ τ1 hP hS hB2 ht1) (fun hn => absurd (e1.trans e2.symm) hn)
set_option maxHeartbeats 4000000 in
theorem lc_case_10 (X : lcX p s m args c b L xs D cI cZ ad) (hl : lv_has ls 4 (lcl b ad i)) (hin : ∀ k : Nat, k < 5 → vp_in (i + Int32.ofNat k) L) (hP : va_P D kcl (kw cI cZ ad S) H) (hS : va_S (lcS s) s.heap H locs) (hB : kBoth S M τ) (hτ : τ + 24 < 8388608) (kk : ∀ (H1 : Heap) (locs1 : List Loc) (S1 : kS) (M1 : kO) (τ1 : Nat), va_P D kcl (kw cI cZ ad S1) H1 → va_S (lcS s) s.heap H1 locs1 → kBoth S1 M1 τ1 → τ1 ≤ τ + 24 → W p l e room_1 s m args below meth c H1 locs1 600000 7302250 Q (F0 m 698 ls [])) : W p l e room_1 s m args below meth c H locs 600000 7302250 Q (F0 m 458 ls []) := by
  refine lv_aload_n X.1.1 X.1.2.1 dl_458 rfl (lv_at hl 2 rfl) ?_
  refine lc_call (d := 72) (o := 0) (k := 0) (n := 0) (as := []) (rest := []) X.1 dl_459 kl_L_56 k_im_76 k_se_76 kok_76 rfl (by decide +kernel) rfl rfl (by decide) (by decide) (by decide) (by decide) X.2.2.2.2.1 X.2.2.2.1 rfl rfl (ls_clear hB hτ) hl.1 (Nat.le_of_ble_eq_true rfl) hP hS X.2.2.2.2.2 (fun r1 S1 H1 locs1 hF hP hS => ?_)
  obtain ⟨e1, hr1, τ1, ht1, hc1⟩ := hF
  refine lv_aload_n X.1.1 X.1.2.1 dl_462 rfl (lv_at hl 1 rfl) ?_
  refine lc_call (d := 9) (o := 39) (k := 8) (n := 0) (as := []) (rest := [.int r1]) X.1 dl_463 kl_L_60 k_im_136 k_se_136 kok_136 rfl (by decide +kernel) rfl rfl (by decide) (by decide) (by decide) (by decide) X.2.2.2.2.1 X.2.2.2.1 rfl rfl (lt_clear hr1 hc1 hB.2.2) hl.1 (Nat.le_of_ble_eq_true rfl) hP hS X.2.2.2.2.2 (fun r2 S2 H2 locs2 hF hP hS => ?_)
  obtain ⟨e2, hB2⟩ := hF
  exact lv_icmp_eq (tgt := 698) X.1.1 X.1.2.1 dl_466 (by decide) (fun _ => kk H2 locs2 S2 _ τ1 hP hS hB2 ht1) (fun hn => absurd (e1.trans e2.symm) hn)
set_option maxHeartbeats 4000000 in
theorem lc_case_11 (X : lcX p s m args c b L xs D cI cZ ad) (hl : lv_has ls 4 (lcl b ad i)) (hin : ∀ k : Nat, k < 5 → vp_in (i + Int32.ofNat k) L) (hP : va_P D kcl (kw cI cZ ad S) H) (hS : va_S (lcS s) s.heap H locs) (hB : kBoth S M τ) (hτ : τ + 24 < 8388608) (kk : ∀ (H1 : Heap) (locs1 : List Loc) (S1 : kS) (M1 : kO) (τ1 : Nat), va_P D kcl (kw cI cZ ad S1) H1 → va_S (lcS s) s.heap H1 locs1 → kBoth S1 M1 τ1 → τ1 ≤ τ + 24 → W p l e room_1 s m args below meth c H1 locs1 600000 7302250 Q (F0 m 698 ls [])) : W p l e room_1 s m args below meth c H locs 600000 7302250 Q (F0 m 471 ls []) := by
  refine lv_aload_n X.1.1 X.1.2.1 dl_471 rfl (lv_at hl 2 rfl) ?_
  refine lc_call (d := 72) (o := 0) (k := 0) (n := 0) (as := []) (rest := []) X.1 dl_472 kl_L_61 k_im_78 k_se_78 kok_78 rfl (by decide +kernel) rfl rfl (by decide) (by decide) (by decide) (by decide) X.2.2.2.2.1 X.2.2.2.1 rfl rfl (ls_replay hB hτ) hl.1 (Nat.le_of_ble_eq_true rfl) hP hS X.2.2.2.2.2 (fun r1 S1 H1 locs1 hF hP hS => ?_)
  obtain ⟨e1, hr1, τ1, ht1, hc1⟩ := hF
  refine lv_aload_n X.1.1 X.1.2.1 dl_475 rfl (lv_at hl 1 rfl) ?_
  refine lc_call (d := 9) (o := 39) (k := 8) (n := 0) (as := []) (rest := [.int r1]) X.1 dl_476 kl_L_64 k_im_137 k_se_137 kok_137 rfl (by decide +kernel) rfl rfl (by decide) (by decide) (by decide) (by decide) X.2.2.2.2.1 X.2.2.2.1 rfl rfl (lt_replay hr1 hc1 hB.2.2) hl.1 (Nat.le_of_ble_eq_true rfl) hP hS X.2.2.2.2.2 (fun r2 S2 H2 locs2 hF hP hS => ?_)
  obtain ⟨e2, hB2⟩ := hF
  exact lv_icmp_eq (tgt := 698) X.1.1 X.1.2.1 dl_479 (by decide) (fun _ => kk H2 locs2 S2 _ τ1 hP hS hB2 ht1) (fun hn => absurd (e1.trans e2.symm) hn)
set_option maxHeartbeats 4000000 in
theorem lc_case_12 (X : lcX p s m args c b L xs D cI cZ ad) (hl : lv_has ls 4 (lcl b ad i)) (hin : ∀ k : Nat, k < 5 → vp_in (i + Int32.ofNat k) L) (hP : va_P D kcl (kw cI cZ ad S) H) (hS : va_S (lcS s) s.heap H locs) (hB : kBoth S M τ) (hτ : τ + 24 < 8388608) (kk : ∀ (H1 : Heap) (locs1 : List Loc) (S1 : kS) (M1 : kO) (τ1 : Nat), va_P D kcl (kw cI cZ ad S1) H1 → va_S (lcS s) s.heap H1 locs1 → kBoth S1 M1 τ1 → τ1 ≤ τ + 24 → W p l e room_1 s m args below meth c H1 locs1 600000 7302250 Q (F0 m 698 ls [])) : W p l e room_1 s m args below meth c H locs 600000 7302250 Q (F0 m 484 ls []) := by
  refine lv_aload_n X.1.1 X.1.2.1 dl_484 rfl (lv_at hl 2 rfl) ?_
  refine lc_arg (k := 1) X.1.1 X.1.2.1 hl X.2.1 X.2.2.1 (Nat.not_le.mpr X.2.2.1) hS dl_485 dl_486 dl_487 (by decide) dl_488 dl_489 (hin 1 (by decide)) ?_
  refine lc_call (d := 72) (o := 0) (k := 0) (n := 1) (as := [.inl (xs (i + 1).toNatClampNeg)]) (rest := []) X.1 dl_490 kl_L_65 k_im_80 k_se_80 kok_80 rfl (by decide +kernel) rfl rfl (by decide) (by decide) (by decide) (by decide) X.2.2.2.2.1 X.2.2.2.1 rfl rfl (ls_typeOf hB hτ) hl.1 (Nat.le_of_ble_eq_true rfl) hP hS X.2.2.2.2.2 (fun r1 S1 H1 locs1 hF hP hS => ?_)
  obtain ⟨e1, hr1, τ1, ht1, hc1⟩ := hF
  refine lv_aload_n X.1.1 X.1.2.1 dl_493 rfl (lv_at hl 1 rfl) ?_
  refine lc_arg (k := 1) X.1.1 X.1.2.1 hl X.2.1 X.2.2.1 (Nat.not_le.mpr X.2.2.1) hS dl_494 dl_495 dl_496 (by decide) dl_497 dl_498 (hin 1 (by decide)) ?_
  refine lc_call (d := 9) (o := 39) (k := 8) (n := 1) (as := [.inl (xs (i + 1).toNatClampNeg)]) (rest := [.int r1]) X.1 dl_499 kl_L_68 k_im_139 k_se_139 kok_139 rfl (by decide +kernel) rfl rfl (by decide) (by decide) (by decide) (by decide) X.2.2.2.2.1 X.2.2.2.1 rfl rfl (lt_typeOf hr1 hc1 hB.2.2) hl.1 (Nat.le_of_ble_eq_true rfl) hP hS X.2.2.2.2.2 (fun r2 S2 H2 locs2 hF hP hS => ?_)
  obtain ⟨e2, hB2⟩ := hF
  exact lv_icmp_eq (tgt := 698) X.1.1 X.1.2.1 dl_502 (by decide) (fun _ => kk H2 locs2 S2 _ τ1 hP hS hB2 ht1) (fun hn => absurd (e1.trans e2.symm) hn)
set_option maxHeartbeats 4000000 in
theorem lc_case_13 (X : lcX p s m args c b L xs D cI cZ ad) (hl : lv_has ls 4 (lcl b ad i)) (hin : ∀ k : Nat, k < 5 → vp_in (i + Int32.ofNat k) L) (hP : va_P D kcl (kw cI cZ ad S) H) (hS : va_S (lcS s) s.heap H locs) (hB : kBoth S M τ) (hτ : τ + 24 < 8388608) (kk : ∀ (H1 : Heap) (locs1 : List Loc) (S1 : kS) (M1 : kO) (τ1 : Nat), va_P D kcl (kw cI cZ ad S1) H1 → va_S (lcS s) s.heap H1 locs1 → kBoth S1 M1 τ1 → τ1 ≤ τ + 24 → W p l e room_1 s m args below meth c H1 locs1 600000 7302250 Q (F0 m 698 ls [])) : W p l e room_1 s m args below meth c H locs 600000 7302250 Q (F0 m 507 ls []) := by
  refine lv_aload_n X.1.1 X.1.2.1 dl_507 rfl (lv_at hl 2 rfl) ?_
  refine lc_arg (k := 1) X.1.1 X.1.2.1 hl X.2.1 X.2.2.1 (Nat.not_le.mpr X.2.2.1) hS dl_508 dl_509 dl_510 (by decide) dl_511 dl_512 (hin 1 (by decide)) ?_
  refine lc_call (d := 72) (o := 0) (k := 0) (n := 1) (as := [.inl (xs (i + 1).toNatClampNeg)]) (rest := []) X.1 dl_513 kl_L_69 k_im_81 k_se_81 kok_81 rfl (by decide +kernel) rfl rfl (by decide) (by decide) (by decide) (by decide) X.2.2.2.2.1 X.2.2.2.1 rfl rfl (ls_kind hB hτ) hl.1 (Nat.le_of_ble_eq_true rfl) hP hS X.2.2.2.2.2 (fun r1 S1 H1 locs1 hF hP hS => ?_)
  obtain ⟨e1, hr1, τ1, ht1, hc1⟩ := hF
  refine lv_aload_n X.1.1 X.1.2.1 dl_516 rfl (lv_at hl 1 rfl) ?_
  refine lc_arg (k := 1) X.1.1 X.1.2.1 hl X.2.1 X.2.2.1 (Nat.not_le.mpr X.2.2.1) hS dl_517 dl_518 dl_519 (by decide) dl_520 dl_521 (hin 1 (by decide)) ?_
  refine lc_call (d := 9) (o := 39) (k := 8) (n := 1) (as := [.inl (xs (i + 1).toNatClampNeg)]) (rest := [.int r1]) X.1 dl_522 kl_L_72 k_im_140 k_se_140 kok_140 rfl (by decide +kernel) rfl rfl (by decide) (by decide) (by decide) (by decide) X.2.2.2.2.1 X.2.2.2.1 rfl rfl (lt_kind hr1 hc1 hB.2.2) hl.1 (Nat.le_of_ble_eq_true rfl) hP hS X.2.2.2.2.2 (fun r2 S2 H2 locs2 hF hP hS => ?_)
  obtain ⟨e2, hB2⟩ := hF
  exact lv_icmp_eq (tgt := 698) X.1.1 X.1.2.1 dl_525 (by decide) (fun _ => kk H2 locs2 S2 _ τ1 hP hS hB2 ht1) (fun hn => absurd (e1.trans e2.symm) hn)
set_option maxHeartbeats 4000000 in
theorem lc_case_14 (X : lcX p s m args c b L xs D cI cZ ad) (hl : lv_has ls 4 (lcl b ad i)) (hin : ∀ k : Nat, k < 5 → vp_in (i + Int32.ofNat k) L) (hP : va_P D kcl (kw cI cZ ad S) H) (hS : va_S (lcS s) s.heap H locs) (hB : kBoth S M τ) (hτ : τ + 24 < 8388608) (kk : ∀ (H1 : Heap) (locs1 : List Loc) (S1 : kS) (M1 : kO) (τ1 : Nat), va_P D kcl (kw cI cZ ad S1) H1 → va_S (lcS s) s.heap H1 locs1 → kBoth S1 M1 τ1 → τ1 ≤ τ + 24 → W p l e room_1 s m args below meth c H1 locs1 600000 7302250 Q (F0 m 698 ls [])) : W p l e room_1 s m args below meth c H locs 600000 7302250 Q (F0 m 530 ls []) := by
  refine lv_aload_n X.1.1 X.1.2.1 dl_530 rfl (lv_at hl 2 rfl) ?_
  refine lc_arg (k := 1) X.1.1 X.1.2.1 hl X.2.1 X.2.2.1 (Nat.not_le.mpr X.2.2.1) hS dl_531 dl_532 dl_533 (by decide) dl_534 dl_535 (hin 1 (by decide)) ?_
  refine lc_arg (k := 2) X.1.1 X.1.2.1 hl X.2.1 X.2.2.1 (Nat.not_le.mpr X.2.2.1) hS dl_536 dl_537 dl_538 (by decide) dl_539 dl_540 (hin 2 (by decide)) ?_
  refine lc_call (d := 72) (o := 0) (k := 0) (n := 2) (as := [.inl (xs (i + 1).toNatClampNeg), .inl (xs (i + 2).toNatClampNeg)]) (rest := []) X.1 dl_541 kl_L_73 k_im_82 k_se_82 kok_82 rfl (by decide +kernel) rfl rfl (by decide) (by decide) (by decide) (by decide) X.2.2.2.2.1 X.2.2.2.1 rfl rfl (ls_part hB hτ) hl.1 (Nat.le_of_ble_eq_true rfl) hP hS X.2.2.2.2.2 (fun r1 S1 H1 locs1 hF hP hS => ?_)
  obtain ⟨e1, hr1, τ1, ht1, hc1⟩ := hF
  refine lv_aload_n X.1.1 X.1.2.1 dl_544 rfl (lv_at hl 1 rfl) ?_
  refine lc_arg (k := 1) X.1.1 X.1.2.1 hl X.2.1 X.2.2.1 (Nat.not_le.mpr X.2.2.1) hS dl_545 dl_546 dl_547 (by decide) dl_548 dl_549 (hin 1 (by decide)) ?_
  refine lc_arg (k := 2) X.1.1 X.1.2.1 hl X.2.1 X.2.2.1 (Nat.not_le.mpr X.2.2.1) hS dl_550 dl_551 dl_552 (by decide) dl_553 dl_554 (hin 2 (by decide)) ?_
  refine lc_call (d := 9) (o := 39) (k := 8) (n := 2) (as := [.inl (xs (i + 1).toNatClampNeg), .inl (xs (i + 2).toNatClampNeg)]) (rest := [.int r1]) X.1 dl_555 kl_L_76 k_im_141 k_se_141 kok_141 rfl (by decide +kernel) rfl rfl (by decide) (by decide) (by decide) (by decide) X.2.2.2.2.1 X.2.2.2.1 rfl rfl (lt_part hr1 hc1 hB.2.2) hl.1 (Nat.le_of_ble_eq_true rfl) hP hS X.2.2.2.2.2 (fun r2 S2 H2 locs2 hF hP hS => ?_)
  obtain ⟨e2, hB2⟩ := hF
  exact lv_icmp_eq (tgt := 698) X.1.1 X.1.2.1 dl_558 (by decide) (fun _ => kk H2 locs2 S2 _ τ1 hP hS hB2 ht1) (fun hn => absurd (e1.trans e2.symm) hn)
set_option maxHeartbeats 4000000 in
theorem lc_case_15 (X : lcX p s m args c b L xs D cI cZ ad) (hl : lv_has ls 4 (lcl b ad i)) (hin : ∀ k : Nat, k < 5 → vp_in (i + Int32.ofNat k) L) (hP : va_P D kcl (kw cI cZ ad S) H) (hS : va_S (lcS s) s.heap H locs) (hB : kBoth S M τ) (hτ : τ + 24 < 8388608) (kk : ∀ (H1 : Heap) (locs1 : List Loc) (S1 : kS) (M1 : kO) (τ1 : Nat), va_P D kcl (kw cI cZ ad S1) H1 → va_S (lcS s) s.heap H1 locs1 → kBoth S1 M1 τ1 → τ1 ≤ τ + 24 → W p l e room_1 s m args below meth c H1 locs1 600000 7302250 Q (F0 m 698 ls [])) : W p l e room_1 s m args below meth c H locs 600000 7302250 Q (F0 m 563 ls []) := by
  refine lv_aload_n X.1.1 X.1.2.1 dl_563 rfl (lv_at hl 2 rfl) ?_
  refine lc_arg (k := 1) X.1.1 X.1.2.1 hl X.2.1 X.2.2.1 (Nat.not_le.mpr X.2.2.1) hS dl_564 dl_565 dl_566 (by decide) dl_567 dl_568 (hin 1 (by decide)) ?_
  refine lc_arg (k := 2) X.1.1 X.1.2.1 hl X.2.1 X.2.2.1 (Nat.not_le.mpr X.2.2.1) hS dl_569 dl_570 dl_571 (by decide) dl_572 dl_573 (hin 2 (by decide)) ?_
  refine lc_call (d := 72) (o := 0) (k := 0) (n := 2) (as := [.inl (xs (i + 1).toNatClampNeg), .inl (xs (i + 2).toNatClampNeg)]) (rest := []) X.1 dl_574 kl_L_77 k_im_83 k_se_83 kok_83 rfl (by decide +kernel) rfl rfl (by decide) (by decide) (by decide) (by decide) X.2.2.2.2.1 X.2.2.2.1 rfl rfl (ls_free hB hτ) hl.1 (Nat.le_of_ble_eq_true rfl) hP hS X.2.2.2.2.2 (fun r1 S1 H1 locs1 hF hP hS => ?_)
  obtain ⟨e1, hr1, τ1, ht1, hc1⟩ := hF
  refine lv_aload_n X.1.1 X.1.2.1 dl_577 rfl (lv_at hl 1 rfl) ?_
  refine lc_arg (k := 1) X.1.1 X.1.2.1 hl X.2.1 X.2.2.1 (Nat.not_le.mpr X.2.2.1) hS dl_578 dl_579 dl_580 (by decide) dl_581 dl_582 (hin 1 (by decide)) ?_
  refine lc_arg (k := 2) X.1.1 X.1.2.1 hl X.2.1 X.2.2.1 (Nat.not_le.mpr X.2.2.1) hS dl_583 dl_584 dl_585 (by decide) dl_586 dl_587 (hin 2 (by decide)) ?_
  refine lc_call (d := 9) (o := 39) (k := 8) (n := 2) (as := [.inl (xs (i + 1).toNatClampNeg), .inl (xs (i + 2).toNatClampNeg)]) (rest := [.int r1]) X.1 dl_588 kl_L_81 k_im_142 k_se_142 kok_142 rfl (by decide +kernel) rfl rfl (by decide) (by decide) (by decide) (by decide) X.2.2.2.2.1 X.2.2.2.1 rfl rfl (lt_free hr1 hc1 hB.2.2) hl.1 (Nat.le_of_ble_eq_true rfl) hP hS X.2.2.2.2.2 (fun r2 S2 H2 locs2 hF hP hS => ?_)
  obtain ⟨e2, hB2⟩ := hF
  exact lv_icmp_eq (tgt := 698) X.1.1 X.1.2.1 dl_591 (by decide) (fun _ => kk H2 locs2 S2 _ τ1 hP hS hB2 ht1) (fun hn => absurd (e1.trans e2.symm) hn)
set_option maxHeartbeats 4000000 in
theorem lc_case_16 (X : lcX p s m args c b L xs D cI cZ ad) (hl : lv_has ls 4 (lcl b ad i)) (hin : ∀ k : Nat, k < 5 → vp_in (i + Int32.ofNat k) L) (hP : va_P D kcl (kw cI cZ ad S) H) (hS : va_S (lcS s) s.heap H locs) (hB : kBoth S M τ) (hτ : τ + 24 < 8388608) (kk : ∀ (H1 : Heap) (locs1 : List Loc) (S1 : kS) (M1 : kO) (τ1 : Nat), va_P D kcl (kw cI cZ ad S1) H1 → va_S (lcS s) s.heap H1 locs1 → kBoth S1 M1 τ1 → τ1 ≤ τ + 24 → W p l e room_1 s m args below meth c H1 locs1 600000 7302250 Q (F0 m 698 ls [])) : W p l e room_1 s m args below meth c H locs 600000 7302250 Q (F0 m 596 ls []) := by
  refine lv_aload_n X.1.1 X.1.2.1 dl_596 rfl (lv_at hl 2 rfl) ?_
  refine lc_arg (k := 1) X.1.1 X.1.2.1 hl X.2.1 X.2.2.1 (Nat.not_le.mpr X.2.2.1) hS dl_597 dl_598 dl_599 (by decide) dl_600 dl_601 (hin 1 (by decide)) ?_
  refine lc_call (d := 72) (o := 0) (k := 0) (n := 1) (as := [.inl (xs (i + 1).toNatClampNeg)]) (rest := []) X.1 dl_602 kl_L_82 k_im_84 k_se_84 kok_84 rfl (by decide +kernel) rfl rfl (by decide) (by decide) (by decide) (by decide) X.2.2.2.2.1 X.2.2.2.1 rfl rfl (ls_conclusion hB hτ) hl.1 (Nat.le_of_ble_eq_true rfl) hP hS X.2.2.2.2.2 (fun r1 S1 H1 locs1 hF hP hS => ?_)
  obtain ⟨e1, hr1, τ1, ht1, hc1⟩ := hF
  refine lv_aload_n X.1.1 X.1.2.1 dl_605 rfl (lv_at hl 1 rfl) ?_
  refine lc_arg (k := 1) X.1.1 X.1.2.1 hl X.2.1 X.2.2.1 (Nat.not_le.mpr X.2.2.1) hS dl_606 dl_607 dl_608 (by decide) dl_609 dl_610 (hin 1 (by decide)) ?_
  refine lc_call (d := 9) (o := 39) (k := 8) (n := 1) (as := [.inl (xs (i + 1).toNatClampNeg)]) (rest := [.int r1]) X.1 dl_611 kl_L_85 k_im_143 k_se_143 kok_143 rfl (by decide +kernel) rfl rfl (by decide) (by decide) (by decide) (by decide) X.2.2.2.2.1 X.2.2.2.1 rfl rfl (lt_conclusion hr1 hc1 hB.2.2) hl.1 (Nat.le_of_ble_eq_true rfl) hP hS X.2.2.2.2.2 (fun r2 S2 H2 locs2 hF hP hS => ?_)
  obtain ⟨e2, hB2⟩ := hF
  exact lv_icmp_eq (tgt := 698) X.1.1 X.1.2.1 dl_614 (by decide) (fun _ => kk H2 locs2 S2 _ τ1 hP hS hB2 ht1) (fun hn => absurd (e1.trans e2.symm) hn)
set_option maxHeartbeats 4000000 in
theorem lc_case_17 (X : lcX p s m args c b L xs D cI cZ ad) (hl : lv_has ls 4 (lcl b ad i)) (hin : ∀ k : Nat, k < 5 → vp_in (i + Int32.ofNat k) L) (hP : va_P D kcl (kw cI cZ ad S) H) (hS : va_S (lcS s) s.heap H locs) (hB : kBoth S M τ) (hτ : τ + 24 < 8388608) (kk : ∀ (H1 : Heap) (locs1 : List Loc) (S1 : kS) (M1 : kO) (τ1 : Nat), va_P D kcl (kw cI cZ ad S1) H1 → va_S (lcS s) s.heap H1 locs1 → kBoth S1 M1 τ1 → τ1 ≤ τ + 24 → W p l e room_1 s m args below meth c H1 locs1 600000 7302250 Q (F0 m 698 ls [])) : W p l e room_1 s m args below meth c H locs 600000 7302250 Q (F0 m 619 ls []) := by
  refine lv_aload_n X.1.1 X.1.2.1 dl_619 rfl (lv_at hl 2 rfl) ?_
  refine lc_arg (k := 1) X.1.1 X.1.2.1 hl X.2.1 X.2.2.1 (Nat.not_le.mpr X.2.2.1) hS dl_620 dl_621 dl_622 (by decide) dl_623 dl_624 (hin 1 (by decide)) ?_
  refine lc_call (d := 72) (o := 0) (k := 0) (n := 1) (as := [.inl (xs (i + 1).toNatClampNeg)]) (rest := []) X.1 dl_625 kl_L_86 k_im_85 k_se_85 kok_85 rfl (by decide +kernel) rfl rfl (by decide) (by decide) (by decide) (by decide) X.2.2.2.2.1 X.2.2.2.1 rfl rfl (ls_hypotheses hB hτ) hl.1 (Nat.le_of_ble_eq_true rfl) hP hS X.2.2.2.2.2 (fun r1 S1 H1 locs1 hF hP hS => ?_)
  obtain ⟨e1, hr1, τ1, ht1, hc1⟩ := hF
  refine lv_aload_n X.1.1 X.1.2.1 dl_628 rfl (lv_at hl 1 rfl) ?_
  refine lc_arg (k := 1) X.1.1 X.1.2.1 hl X.2.1 X.2.2.1 (Nat.not_le.mpr X.2.2.1) hS dl_629 dl_630 dl_631 (by decide) dl_632 dl_633 (hin 1 (by decide)) ?_
  refine lc_call (d := 9) (o := 39) (k := 8) (n := 1) (as := [.inl (xs (i + 1).toNatClampNeg)]) (rest := [.int r1]) X.1 dl_634 kl_L_89 k_im_144 k_se_144 kok_144 rfl (by decide +kernel) rfl rfl (by decide) (by decide) (by decide) (by decide) X.2.2.2.2.1 X.2.2.2.1 rfl rfl (lt_hypotheses hr1 hc1 hB.2.2) hl.1 (Nat.le_of_ble_eq_true rfl) hP hS X.2.2.2.2.2 (fun r2 S2 H2 locs2 hF hP hS => ?_)
  obtain ⟨e2, hB2⟩ := hF
  exact lv_icmp_eq (tgt := 698) X.1.1 X.1.2.1 dl_637 (by decide) (fun _ => kk H2 locs2 S2 _ τ1 hP hS hB2 ht1) (fun hn => absurd (e1.trans e2.symm) hn)
set_option maxHeartbeats 4000000 in
theorem lc_case_18 (X : lcX p s m args c b L xs D cI cZ ad) (hl : lv_has ls 4 (lcl b ad i)) (hin : ∀ k : Nat, k < 5 → vp_in (i + Int32.ofNat k) L) (hP : va_P D kcl (kw cI cZ ad S) H) (hS : va_S (lcS s) s.heap H locs) (hB : kBoth S M τ) (hτ : τ + 24 < 8388608) (kk : ∀ (H1 : Heap) (locs1 : List Loc) (S1 : kS) (M1 : kO) (τ1 : Nat), va_P D kcl (kw cI cZ ad S1) H1 → va_S (lcS s) s.heap H1 locs1 → kBoth S1 M1 τ1 → τ1 ≤ τ + 24 → W p l e room_1 s m args below meth c H1 locs1 600000 7302250 Q (F0 m 698 ls [])) : W p l e room_1 s m args below meth c H locs 600000 7302250 Q (F0 m 642 ls []) := by
  refine lv_aload_n X.1.1 X.1.2.1 dl_642 rfl (lv_at hl 2 rfl) ?_
  refine lc_arg (k := 1) X.1.1 X.1.2.1 hl X.2.1 X.2.2.1 (Nat.not_le.mpr X.2.2.1) hS dl_643 dl_644 dl_645 (by decide) dl_646 dl_647 (hin 1 (by decide)) ?_
  refine lc_arg (k := 2) X.1.1 X.1.2.1 hl X.2.1 X.2.2.1 (Nat.not_le.mpr X.2.2.1) hS dl_648 dl_649 dl_650 (by decide) dl_651 dl_652 (hin 2 (by decide)) ?_
  refine lc_call (d := 72) (o := 0) (k := 0) (n := 2) (as := [.inl (xs (i + 1).toNatClampNeg), .inl (xs (i + 2).toNatClampNeg)]) (rest := []) X.1 dl_653 kl_L_90 k_im_86 k_se_86 kok_86 rfl (by decide +kernel) rfl rfl (by decide) (by decide) (by decide) (by decide) X.2.2.2.2.1 X.2.2.2.1 rfl rfl (ls_assumes hB hτ) hl.1 (Nat.le_of_ble_eq_true rfl) hP hS X.2.2.2.2.2 (fun r1 S1 H1 locs1 hF hP hS => ?_)
  obtain ⟨e1, hr1, τ1, ht1, hc1⟩ := hF
  refine lv_aload_n X.1.1 X.1.2.1 dl_656 rfl (lv_at hl 1 rfl) ?_
  refine lc_arg (k := 1) X.1.1 X.1.2.1 hl X.2.1 X.2.2.1 (Nat.not_le.mpr X.2.2.1) hS dl_657 dl_658 dl_659 (by decide) dl_660 dl_661 (hin 1 (by decide)) ?_
  refine lc_arg (k := 2) X.1.1 X.1.2.1 hl X.2.1 X.2.2.1 (Nat.not_le.mpr X.2.2.1) hS dl_662 dl_663 dl_664 (by decide) dl_665 dl_666 (hin 2 (by decide)) ?_
  refine lc_call (d := 9) (o := 39) (k := 8) (n := 2) (as := [.inl (xs (i + 1).toNatClampNeg), .inl (xs (i + 2).toNatClampNeg)]) (rest := [.int r1]) X.1 dl_667 kl_L_93 k_im_145 k_se_145 kok_145 rfl (by decide +kernel) rfl rfl (by decide) (by decide) (by decide) (by decide) X.2.2.2.2.1 X.2.2.2.1 rfl rfl (lt_assumes hr1 hc1 hB.2.2) hl.1 (Nat.le_of_ble_eq_true rfl) hP hS X.2.2.2.2.2 (fun r2 S2 H2 locs2 hF hP hS => ?_)
  obtain ⟨e2, hB2⟩ := hF
  exact lv_icmp_eq (tgt := 698) X.1.1 X.1.2.1 dl_670 (by decide) (fun _ => kk H2 locs2 S2 _ τ1 hP hS hB2 ht1) (fun hn => absurd (e1.trans e2.symm) hn)
set_option maxHeartbeats 4000000 in
theorem lc_case_19 (X : lcX p s m args c b L xs D cI cZ ad) (hl : lv_has ls 4 (lcl b ad i)) (hin : ∀ k : Nat, k < 5 → vp_in (i + Int32.ofNat k) L) (hP : va_P D kcl (kw cI cZ ad S) H) (hS : va_S (lcS s) s.heap H locs) (hB : kBoth S M τ) (hτ : τ + 24 < 8388608) (kk : ∀ (H1 : Heap) (locs1 : List Loc) (S1 : kS) (M1 : kO) (τ1 : Nat), va_P D kcl (kw cI cZ ad S1) H1 → va_S (lcS s) s.heap H1 locs1 → kBoth S1 M1 τ1 → τ1 ≤ τ + 24 → W p l e room_1 s m args below meth c H1 locs1 600000 7302250 Q (F0 m 698 ls [])) : W p l e room_1 s m args below meth c H locs 600000 7302250 Q (F0 m 675 ls []) := by
  refine lv_aload_n X.1.1 X.1.2.1 dl_675 rfl (lv_at hl 2 rfl) ?_
  refine lc_arg (k := 1) X.1.1 X.1.2.1 hl X.2.1 X.2.2.1 (Nat.not_le.mpr X.2.2.1) hS dl_676 dl_677 dl_678 (by decide) dl_679 dl_680 (hin 1 (by decide)) ?_
  refine lc_call (d := 72) (o := 0) (k := 0) (n := 1) (as := [.inl (xs (i + 1).toNatClampNeg)]) (rest := []) X.1 dl_681 kl_L_94 k_im_88 k_se_88 kok_88 rfl (by decide +kernel) rfl rfl (by decide) (by decide) (by decide) (by decide) X.2.2.2.2.1 X.2.2.2.1 rfl rfl (ls_count hB hτ) hl.1 (Nat.le_of_ble_eq_true rfl) hP hS X.2.2.2.2.2 (fun r1 S1 H1 locs1 hF hP hS => ?_)
  obtain ⟨e1, hr1, τ1, ht1, hc1⟩ := hF
  refine lv_aload_n X.1.1 X.1.2.1 dl_684 rfl (lv_at hl 1 rfl) ?_
  refine lc_arg (k := 1) X.1.1 X.1.2.1 hl X.2.1 X.2.2.1 (Nat.not_le.mpr X.2.2.1) hS dl_685 dl_686 dl_687 (by decide) dl_688 dl_689 (hin 1 (by decide)) ?_
  refine lc_call (d := 9) (o := 39) (k := 8) (n := 1) (as := [.inl (xs (i + 1).toNatClampNeg)]) (rest := [.int r1]) X.1 dl_690 kl_L_97 k_im_146 k_se_146 kok_146 rfl (by decide +kernel) rfl rfl (by decide) (by decide) (by decide) (by decide) X.2.2.2.2.1 X.2.2.2.1 rfl rfl (lt_count hr1 hc1 hB.2.2) hl.1 (Nat.le_of_ble_eq_true rfl) hP hS X.2.2.2.2.2 (fun r2 S2 H2 locs2 hF hP hS => ?_)
  obtain ⟨e2, hB2⟩ := hF
  exact lv_icmp_eq (tgt := 698) X.1.1 X.1.2.1 dl_693 (by decide) (fun _ => kk H2 locs2 S2 _ τ1 hP hS hB2 ht1) (fun hn => absurd (e1.trans e2.symm) hn)
end LAWCASES
