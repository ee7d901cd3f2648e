theorem dL_law_0 : decode cL_law 0 = .ok (.new 8, 3) := by decide +kernel
theorem dL_law_3 : decode cL_law 3 = .ok (.dup, 1) := by decide +kernel
theorem dL_law_4 : decode cL_law 4 = .ok (.invokespecial 15, 3) := by decide +kernel
theorem dL_law_7 : decode cL_law 7 = .ok (.astore_n 1, 1) := by decide +kernel
theorem dL_law_8 : decode cL_law 8 = .ok (.new 16, 3) := by decide +kernel
theorem dL_law_11 : decode cL_law 11 = .ok (.dup, 1) := by decide +kernel
theorem dL_law_12 : decode cL_law 12 = .ok (.invokespecial 18, 3) := by decide +kernel
theorem dL_law_15 : decode cL_law 15 = .ok (.astore_n 2, 1) := by decide +kernel
theorem dL_law_16 : decode cL_law 16 = .ok (.iconst 1, 1) := by decide +kernel
theorem dL_law_17 : decode cL_law 17 = .ok (.newarray .long, 2) := by decide +kernel
theorem dL_law_19 : decode cL_law 19 = .ok (.astore_n 3, 1) := by decide +kernel
theorem dL_law_20 : decode cL_law 20 = .ok (.iconst 0, 1) := by decide +kernel
theorem dL_law_21 : decode cL_law 21 = .ok (.istore 4, 2) := by decide +kernel
theorem dL_law_23 : decode cL_law 23 = .ok (.iload 4, 2) := by decide +kernel
theorem dL_law_25 : decode cL_law 25 = .ok (.aload_n 0, 1) := by decide +kernel
theorem dL_law_26 : decode cL_law 26 = .ok (.arraylength, 1) := by decide +kernel
theorem dL_law_27 : decode cL_law 27 = .ok (.iconst 5, 1) := by decide +kernel
theorem dL_law_28 : decode cL_law 28 = .ok (.isub, 1) := by decide +kernel
theorem dL_law_29 : decode cL_law 29 = .ok (.if_icmp .gt 897, 3) := by decide +kernel
theorem dL_law_32 : decode cL_law 32 = .ok (.aload_n 0, 1) := by decide +kernel
theorem dL_law_33 : decode cL_law 33 = .ok (.iload 4, 2) := by decide +kernel
theorem dL_law_35 : decode cL_law 35 = .ok (.iaload, 1) := by decide +kernel
theorem dL_law_36 : decode cL_law 36 = .ok (.bipush 31, 2) := by decide +kernel
theorem dL_law_38 : decode cL_law 38 = .ok (.iand, 1) := by decide +kernel
theorem dL_law_39 : decode cL_law 39 = .ok (.tableswitch 881 0 21 #[101, 138, 163, 212, 249, 302, 339, 376, 414, 439, 476, 489, 527, 552, 613, 650, 675, 700, 725, 775, 843, 868], 101) := by decide +kernel
theorem dL_law_140 : decode cL_law 140 = .ok (.aload_n 1, 1) := by decide +kernel
theorem dL_law_141 : decode cL_law 141 = .ok (.aload_n 0, 1) := by decide +kernel
theorem dL_law_142 : decode cL_law 142 = .ok (.iload 4, 2) := by decide +kernel
theorem dL_law_144 : decode cL_law 144 = .ok (.iconst 1, 1) := by decide +kernel
theorem dL_law_145 : decode cL_law 145 = .ok (.iadd, 1) := by decide +kernel
theorem dL_law_146 : decode cL_law 146 = .ok (.iaload, 1) := by decide +kernel
theorem dL_law_147 : decode cL_law 147 = .ok (.aload_n 0, 1) := by decide +kernel
theorem dL_law_148 : decode cL_law 148 = .ok (.iload 4, 2) := by decide +kernel
theorem dL_law_150 : decode cL_law 150 = .ok (.iconst 2, 1) := by decide +kernel
theorem dL_law_151 : decode cL_law 151 = .ok (.iadd, 1) := by decide +kernel
theorem dL_law_152 : decode cL_law 152 = .ok (.iaload, 1) := by decide +kernel
theorem dL_law_153 : decode cL_law 153 = .ok (.invokevirtual 19, 3) := by decide +kernel
theorem dL_law_156 : decode cL_law 156 = .ok (.aload_n 2, 1) := by decide +kernel
theorem dL_law_157 : decode cL_law 157 = .ok (.aload_n 0, 1) := by decide +kernel
theorem dL_law_158 : decode cL_law 158 = .ok (.iload 4, 2) := by decide +kernel
theorem dL_law_160 : decode cL_law 160 = .ok (.iconst 1, 1) := by decide +kernel
theorem dL_law_161 : decode cL_law 161 = .ok (.iadd, 1) := by decide +kernel
theorem dL_law_162 : decode cL_law 162 = .ok (.iaload, 1) := by decide +kernel
theorem dL_law_163 : decode cL_law 163 = .ok (.aload_n 0, 1) := by decide +kernel
theorem dL_law_164 : decode cL_law 164 = .ok (.iload 4, 2) := by decide +kernel
theorem dL_law_166 : decode cL_law 166 = .ok (.iconst 2, 1) := by decide +kernel
theorem dL_law_167 : decode cL_law 167 = .ok (.iadd, 1) := by decide +kernel
theorem dL_law_168 : decode cL_law 168 = .ok (.iaload, 1) := by decide +kernel
theorem dL_law_169 : decode cL_law 169 = .ok (.invokevirtual 22, 3) := by decide +kernel
theorem dL_law_172 : decode cL_law 172 = .ok (.if_icmp .eq 748, 3) := by decide +kernel
theorem dL_law_175 : decode cL_law 175 = .ok (.iconst 0, 1) := by decide +kernel
theorem dL_law_176 : decode cL_law 176 = .ok (.ireturn, 1) := by decide +kernel
theorem dL_law_177 : decode cL_law 177 = .ok (.aload_n 1, 1) := by decide +kernel
theorem dL_law_178 : decode cL_law 178 = .ok (.aload_n 0, 1) := by decide +kernel
theorem dL_law_179 : decode cL_law 179 = .ok (.iload 4, 2) := by decide +kernel
theorem dL_law_181 : decode cL_law 181 = .ok (.iconst 1, 1) := by decide +kernel
theorem dL_law_182 : decode cL_law 182 = .ok (.iadd, 1) := by decide +kernel
theorem dL_law_183 : decode cL_law 183 = .ok (.iaload, 1) := by decide +kernel
theorem dL_law_184 : decode cL_law 184 = .ok (.invokevirtual 23, 3) := by decide +kernel
theorem dL_law_187 : decode cL_law 187 = .ok (.aload_n 2, 1) := by decide +kernel
theorem dL_law_188 : decode cL_law 188 = .ok (.aload_n 0, 1) := by decide +kernel
theorem dL_law_189 : decode cL_law 189 = .ok (.iload 4, 2) := by decide +kernel
theorem dL_law_191 : decode cL_law 191 = .ok (.iconst 1, 1) := by decide +kernel
theorem dL_law_192 : decode cL_law 192 = .ok (.iadd, 1) := by decide +kernel
theorem dL_law_193 : decode cL_law 193 = .ok (.iaload, 1) := by decide +kernel
theorem dL_law_194 : decode cL_law 194 = .ok (.invokevirtual 27, 3) := by decide +kernel
theorem dL_law_197 : decode cL_law 197 = .ok (.if_icmp .eq 723, 3) := by decide +kernel
theorem dL_law_200 : decode cL_law 200 = .ok (.iconst 0, 1) := by decide +kernel
theorem dL_law_201 : decode cL_law 201 = .ok (.ireturn, 1) := by decide +kernel
theorem dL_law_202 : decode cL_law 202 = .ok (.aload_n 1, 1) := by decide +kernel
theorem dL_law_203 : decode cL_law 203 = .ok (.aload_n 0, 1) := by decide +kernel
theorem dL_law_204 : decode cL_law 204 = .ok (.iload 4, 2) := by decide +kernel
theorem dL_law_206 : decode cL_law 206 = .ok (.iconst 1, 1) := by decide +kernel
theorem dL_law_207 : decode cL_law 207 = .ok (.iadd, 1) := by decide +kernel
theorem dL_law_208 : decode cL_law 208 = .ok (.iaload, 1) := by decide +kernel
theorem dL_law_209 : decode cL_law 209 = .ok (.aload_n 0, 1) := by decide +kernel
theorem dL_law_210 : decode cL_law 210 = .ok (.iload 4, 2) := by decide +kernel
theorem dL_law_212 : decode cL_law 212 = .ok (.iconst 2, 1) := by decide +kernel
theorem dL_law_213 : decode cL_law 213 = .ok (.iadd, 1) := by decide +kernel
theorem dL_law_214 : decode cL_law 214 = .ok (.iaload, 1) := by decide +kernel
theorem dL_law_215 : decode cL_law 215 = .ok (.aload_n 0, 1) := by decide +kernel
theorem dL_law_216 : decode cL_law 216 = .ok (.iload 4, 2) := by decide +kernel
theorem dL_law_218 : decode cL_law 218 = .ok (.iconst 3, 1) := by decide +kernel
theorem dL_law_219 : decode cL_law 219 = .ok (.iadd, 1) := by decide +kernel
theorem dL_law_220 : decode cL_law 220 = .ok (.iaload, 1) := by decide +kernel
theorem dL_law_221 : decode cL_law 221 = .ok (.invokevirtual 28, 3) := by decide +kernel
theorem dL_law_224 : decode cL_law 224 = .ok (.aload_n 2, 1) := by decide +kernel
theorem dL_law_225 : decode cL_law 225 = .ok (.aload_n 0, 1) := by decide +kernel
theorem dL_law_226 : decode cL_law 226 = .ok (.iload 4, 2) := by decide +kernel
theorem dL_law_228 : decode cL_law 228 = .ok (.iconst 1, 1) := by decide +kernel
theorem dL_law_229 : decode cL_law 229 = .ok (.iadd, 1) := by decide +kernel
theorem dL_law_230 : decode cL_law 230 = .ok (.iaload, 1) := by decide +kernel
theorem dL_law_231 : decode cL_law 231 = .ok (.aload_n 0, 1) := by decide +kernel
theorem dL_law_232 : decode cL_law 232 = .ok (.iload 4, 2) := by decide +kernel
theorem dL_law_234 : decode cL_law 234 = .ok (.iconst 2, 1) := by decide +kernel
theorem dL_law_235 : decode cL_law 235 = .ok (.iadd, 1) := by decide +kernel
theorem dL_law_236 : decode cL_law 236 = .ok (.iaload, 1) := by decide +kernel
theorem dL_law_237 : decode cL_law 237 = .ok (.aload_n 0, 1) := by decide +kernel
theorem dL_law_238 : decode cL_law 238 = .ok (.iload 4, 2) := by decide +kernel
theorem dL_law_240 : decode cL_law 240 = .ok (.iconst 3, 1) := by decide +kernel
theorem dL_law_241 : decode cL_law 241 = .ok (.iadd, 1) := by decide +kernel
theorem dL_law_242 : decode cL_law 242 = .ok (.iaload, 1) := by decide +kernel
theorem dL_law_243 : decode cL_law 243 = .ok (.invokevirtual 32, 3) := by decide +kernel
theorem dL_law_246 : decode cL_law 246 = .ok (.if_icmp .eq 674, 3) := by decide +kernel
theorem dL_law_249 : decode cL_law 249 = .ok (.iconst 0, 1) := by decide +kernel
theorem dL_law_250 : decode cL_law 250 = .ok (.ireturn, 1) := by decide +kernel
theorem dL_law_251 : decode cL_law 251 = .ok (.aload_n 1, 1) := by decide +kernel
theorem dL_law_252 : decode cL_law 252 = .ok (.aload_n 0, 1) := by decide +kernel
theorem dL_law_253 : decode cL_law 253 = .ok (.iload 4, 2) := by decide +kernel
theorem dL_law_255 : decode cL_law 255 = .ok (.iconst 1, 1) := by decide +kernel
theorem dL_law_256 : decode cL_law 256 = .ok (.iadd, 1) := by decide +kernel
theorem dL_law_257 : decode cL_law 257 = .ok (.iaload, 1) := by decide +kernel
theorem dL_law_258 : decode cL_law 258 = .ok (.aload_n 0, 1) := by decide +kernel
theorem dL_law_259 : decode cL_law 259 = .ok (.iload 4, 2) := by decide +kernel
theorem dL_law_261 : decode cL_law 261 = .ok (.iconst 2, 1) := by decide +kernel
theorem dL_law_262 : decode cL_law 262 = .ok (.iadd, 1) := by decide +kernel
theorem dL_law_263 : decode cL_law 263 = .ok (.iaload, 1) := by decide +kernel
theorem dL_law_264 : decode cL_law 264 = .ok (.invokevirtual 33, 3) := by decide +kernel
theorem dL_law_267 : decode cL_law 267 = .ok (.aload_n 2, 1) := by decide +kernel
theorem dL_law_268 : decode cL_law 268 = .ok (.aload_n 0, 1) := by decide +kernel
theorem dL_law_269 : decode cL_law 269 = .ok (.iload 4, 2) := by decide +kernel
theorem dL_law_271 : decode cL_law 271 = .ok (.iconst 1, 1) := by decide +kernel
theorem dL_law_272 : decode cL_law 272 = .ok (.iadd, 1) := by decide +kernel
theorem dL_law_273 : decode cL_law 273 = .ok (.iaload, 1) := by decide +kernel
theorem dL_law_274 : decode cL_law 274 = .ok (.aload_n 0, 1) := by decide +kernel
theorem dL_law_275 : decode cL_law 275 = .ok (.iload 4, 2) := by decide +kernel
theorem dL_law_277 : decode cL_law 277 = .ok (.iconst 2, 1) := by decide +kernel
theorem dL_law_278 : decode cL_law 278 = .ok (.iadd, 1) := by decide +kernel
theorem dL_law_279 : decode cL_law 279 = .ok (.iaload, 1) := by decide +kernel
theorem dL_law_280 : decode cL_law 280 = .ok (.invokevirtual 36, 3) := by decide +kernel
theorem dL_law_283 : decode cL_law 283 = .ok (.if_icmp .eq 637, 3) := by decide +kernel
theorem dL_law_286 : decode cL_law 286 = .ok (.iconst 0, 1) := by decide +kernel
theorem dL_law_287 : decode cL_law 287 = .ok (.ireturn, 1) := by decide +kernel
theorem dL_law_288 : decode cL_law 288 = .ok (.aload_n 1, 1) := by decide +kernel
theorem dL_law_289 : decode cL_law 289 = .ok (.aload_n 0, 1) := by decide +kernel
theorem dL_law_290 : decode cL_law 290 = .ok (.iload 4, 2) := by decide +kernel
theorem dL_law_292 : decode cL_law 292 = .ok (.iconst 1, 1) := by decide +kernel
theorem dL_law_293 : decode cL_law 293 = .ok (.iadd, 1) := by decide +kernel
theorem dL_law_294 : decode cL_law 294 = .ok (.iaload, 1) := by decide +kernel
theorem dL_law_295 : decode cL_law 295 = .ok (.aload_n 0, 1) := by decide +kernel
theorem dL_law_296 : decode cL_law 296 = .ok (.iload 4, 2) := by decide +kernel
theorem dL_law_298 : decode cL_law 298 = .ok (.iconst 2, 1) := by decide +kernel
theorem dL_law_299 : decode cL_law 299 = .ok (.iadd, 1) := by decide +kernel
theorem dL_law_300 : decode cL_law 300 = .ok (.iaload, 1) := by decide +kernel
theorem dL_law_301 : decode cL_law 301 = .ok (.ifCond .eq 7, 3) := by decide +kernel
theorem dL_law_304 : decode cL_law 304 = .ok (.iconst 1, 1) := by decide +kernel
theorem dL_law_305 : decode cL_law 305 = .ok (.goto 4, 3) := by decide +kernel
theorem dL_law_308 : decode cL_law 308 = .ok (.iconst 0, 1) := by decide +kernel
theorem dL_law_309 : decode cL_law 309 = .ok (.invokevirtual 37, 3) := by decide +kernel
theorem dL_law_312 : decode cL_law 312 = .ok (.aload_n 2, 1) := by decide +kernel
theorem dL_law_313 : decode cL_law 313 = .ok (.aload_n 0, 1) := by decide +kernel
theorem dL_law_314 : decode cL_law 314 = .ok (.iload 4, 2) := by decide +kernel
theorem dL_law_316 : decode cL_law 316 = .ok (.iconst 1, 1) := by decide +kernel
theorem dL_law_317 : decode cL_law 317 = .ok (.iadd, 1) := by decide +kernel
theorem dL_law_318 : decode cL_law 318 = .ok (.iaload, 1) := by decide +kernel
theorem dL_law_319 : decode cL_law 319 = .ok (.aload_n 0, 1) := by decide +kernel
theorem dL_law_320 : decode cL_law 320 = .ok (.iload 4, 2) := by decide +kernel
theorem dL_law_322 : decode cL_law 322 = .ok (.iconst 2, 1) := by decide +kernel
theorem dL_law_323 : decode cL_law 323 = .ok (.iadd, 1) := by decide +kernel
theorem dL_law_324 : decode cL_law 324 = .ok (.iaload, 1) := by decide +kernel
theorem dL_law_325 : decode cL_law 325 = .ok (.ifCond .eq 7, 3) := by decide +kernel
theorem dL_law_328 : decode cL_law 328 = .ok (.iconst 1, 1) := by decide +kernel
theorem dL_law_329 : decode cL_law 329 = .ok (.goto 4, 3) := by decide +kernel
theorem dL_law_332 : decode cL_law 332 = .ok (.iconst 0, 1) := by decide +kernel
theorem dL_law_333 : decode cL_law 333 = .ok (.invokevirtual 41, 3) := by decide +kernel
theorem dL_law_336 : decode cL_law 336 = .ok (.if_icmp .eq 584, 3) := by decide +kernel
theorem dL_law_339 : decode cL_law 339 = .ok (.iconst 0, 1) := by decide +kernel
theorem dL_law_340 : decode cL_law 340 = .ok (.ireturn, 1) := by decide +kernel
theorem dL_law_341 : decode cL_law 341 = .ok (.aload_n 1, 1) := by decide +kernel
theorem dL_law_342 : decode cL_law 342 = .ok (.aload_n 0, 1) := by decide +kernel
theorem dL_law_343 : decode cL_law 343 = .ok (.iload 4, 2) := by decide +kernel
theorem dL_law_345 : decode cL_law 345 = .ok (.iconst 1, 1) := by decide +kernel
theorem dL_law_346 : decode cL_law 346 = .ok (.iadd, 1) := by decide +kernel
theorem dL_law_347 : decode cL_law 347 = .ok (.iaload, 1) := by decide +kernel
theorem dL_law_348 : decode cL_law 348 = .ok (.aload_n 0, 1) := by decide +kernel
theorem dL_law_349 : decode cL_law 349 = .ok (.iload 4, 2) := by decide +kernel
theorem dL_law_351 : decode cL_law 351 = .ok (.iconst 2, 1) := by decide +kernel
theorem dL_law_352 : decode cL_law 352 = .ok (.iadd, 1) := by decide +kernel
theorem dL_law_353 : decode cL_law 353 = .ok (.iaload, 1) := by decide +kernel
theorem dL_law_354 : decode cL_law 354 = .ok (.invokevirtual 42, 3) := by decide +kernel
theorem dL_law_357 : decode cL_law 357 = .ok (.aload_n 2, 1) := by decide +kernel
theorem dL_law_358 : decode cL_law 358 = .ok (.aload_n 0, 1) := by decide +kernel
theorem dL_law_359 : decode cL_law 359 = .ok (.iload 4, 2) := by decide +kernel
theorem dL_law_361 : decode cL_law 361 = .ok (.iconst 1, 1) := by decide +kernel
theorem dL_law_362 : decode cL_law 362 = .ok (.iadd, 1) := by decide +kernel
theorem dL_law_363 : decode cL_law 363 = .ok (.iaload, 1) := by decide +kernel
theorem dL_law_364 : decode cL_law 364 = .ok (.aload_n 0, 1) := by decide +kernel
theorem dL_law_365 : decode cL_law 365 = .ok (.iload 4, 2) := by decide +kernel
theorem dL_law_367 : decode cL_law 367 = .ok (.iconst 2, 1) := by decide +kernel
theorem dL_law_368 : decode cL_law 368 = .ok (.iadd, 1) := by decide +kernel
theorem dL_law_369 : decode cL_law 369 = .ok (.iaload, 1) := by decide +kernel
theorem dL_law_370 : decode cL_law 370 = .ok (.invokevirtual 45, 3) := by decide +kernel
theorem dL_law_373 : decode cL_law 373 = .ok (.if_icmp .eq 547, 3) := by decide +kernel
theorem dL_law_376 : decode cL_law 376 = .ok (.iconst 0, 1) := by decide +kernel
theorem dL_law_377 : decode cL_law 377 = .ok (.ireturn, 1) := by decide +kernel
theorem dL_law_378 : decode cL_law 378 = .ok (.aload_n 1, 1) := by decide +kernel
theorem dL_law_379 : decode cL_law 379 = .ok (.aload_n 0, 1) := by decide +kernel
theorem dL_law_380 : decode cL_law 380 = .ok (.iload 4, 2) := by decide +kernel
theorem dL_law_382 : decode cL_law 382 = .ok (.iconst 1, 1) := by decide +kernel
theorem dL_law_383 : decode cL_law 383 = .ok (.iadd, 1) := by decide +kernel
theorem dL_law_384 : decode cL_law 384 = .ok (.iaload, 1) := by decide +kernel
theorem dL_law_385 : decode cL_law 385 = .ok (.aload_n 0, 1) := by decide +kernel
theorem dL_law_386 : decode cL_law 386 = .ok (.iload 4, 2) := by decide +kernel
theorem dL_law_388 : decode cL_law 388 = .ok (.iconst 2, 1) := by decide +kernel
theorem dL_law_389 : decode cL_law 389 = .ok (.iadd, 1) := by decide +kernel
theorem dL_law_390 : decode cL_law 390 = .ok (.iaload, 1) := by decide +kernel
theorem dL_law_391 : decode cL_law 391 = .ok (.invokevirtual 46, 3) := by decide +kernel
theorem dL_law_394 : decode cL_law 394 = .ok (.aload_n 2, 1) := by decide +kernel
theorem dL_law_395 : decode cL_law 395 = .ok (.aload_n 0, 1) := by decide +kernel
theorem dL_law_396 : decode cL_law 396 = .ok (.iload 4, 2) := by decide +kernel
theorem dL_law_398 : decode cL_law 398 = .ok (.iconst 1, 1) := by decide +kernel
theorem dL_law_399 : decode cL_law 399 = .ok (.iadd, 1) := by decide +kernel
theorem dL_law_400 : decode cL_law 400 = .ok (.iaload, 1) := by decide +kernel
theorem dL_law_401 : decode cL_law 401 = .ok (.aload_n 0, 1) := by decide +kernel
theorem dL_law_402 : decode cL_law 402 = .ok (.iload 4, 2) := by decide +kernel
theorem dL_law_404 : decode cL_law 404 = .ok (.iconst 2, 1) := by decide +kernel
theorem dL_law_405 : decode cL_law 405 = .ok (.iadd, 1) := by decide +kernel
theorem dL_law_406 : decode cL_law 406 = .ok (.iaload, 1) := by decide +kernel
theorem dL_law_407 : decode cL_law 407 = .ok (.invokevirtual 49, 3) := by decide +kernel
theorem dL_law_410 : decode cL_law 410 = .ok (.if_icmp .eq 510, 3) := by decide +kernel
theorem dL_law_413 : decode cL_law 413 = .ok (.iconst 0, 1) := by decide +kernel
theorem dL_law_414 : decode cL_law 414 = .ok (.ireturn, 1) := by decide +kernel
theorem dL_law_415 : decode cL_law 415 = .ok (.aload_n 1, 1) := by decide +kernel
theorem dL_law_416 : decode cL_law 416 = .ok (.aload_n 0, 1) := by decide +kernel
theorem dL_law_417 : decode cL_law 417 = .ok (.iload 4, 2) := by decide +kernel
theorem dL_law_419 : decode cL_law 419 = .ok (.iconst 1, 1) := by decide +kernel
theorem dL_law_420 : decode cL_law 420 = .ok (.iadd, 1) := by decide +kernel
theorem dL_law_421 : decode cL_law 421 = .ok (.iaload, 1) := by decide +kernel
theorem dL_law_422 : decode cL_law 422 = .ok (.aload_n 0, 1) := by decide +kernel
theorem dL_law_423 : decode cL_law 423 = .ok (.iload 4, 2) := by decide +kernel
theorem dL_law_425 : decode cL_law 425 = .ok (.iconst 2, 1) := by decide +kernel
theorem dL_law_426 : decode cL_law 426 = .ok (.iadd, 1) := by decide +kernel
theorem dL_law_427 : decode cL_law 427 = .ok (.iaload, 1) := by decide +kernel
theorem dL_law_428 : decode cL_law 428 = .ok (.invokevirtual 50, 3) := by decide +kernel
theorem dL_law_431 : decode cL_law 431 = .ok (.aload_n 2, 1) := by decide +kernel
theorem dL_law_432 : decode cL_law 432 = .ok (.aload_n 0, 1) := by decide +kernel
theorem dL_law_433 : decode cL_law 433 = .ok (.iload 4, 2) := by decide +kernel
theorem dL_law_435 : decode cL_law 435 = .ok (.iconst 1, 1) := by decide +kernel
theorem dL_law_436 : decode cL_law 436 = .ok (.iadd, 1) := by decide +kernel
theorem dL_law_437 : decode cL_law 437 = .ok (.iaload, 1) := by decide +kernel
theorem dL_law_438 : decode cL_law 438 = .ok (.aload_n 0, 1) := by decide +kernel
theorem dL_law_439 : decode cL_law 439 = .ok (.iload 4, 2) := by decide +kernel
theorem dL_law_441 : decode cL_law 441 = .ok (.iconst 2, 1) := by decide +kernel
theorem dL_law_442 : decode cL_law 442 = .ok (.iadd, 1) := by decide +kernel
theorem dL_law_443 : decode cL_law 443 = .ok (.iaload, 1) := by decide +kernel
theorem dL_law_444 : decode cL_law 444 = .ok (.invokevirtual 54, 3) := by decide +kernel
theorem dL_law_447 : decode cL_law 447 = .ok (.lcmp, 1) := by decide +kernel
theorem dL_law_448 : decode cL_law 448 = .ok (.ifCond .eq 472, 3) := by decide +kernel
theorem dL_law_451 : decode cL_law 451 = .ok (.iconst 0, 1) := by decide +kernel
theorem dL_law_452 : decode cL_law 452 = .ok (.ireturn, 1) := by decide +kernel
theorem dL_law_453 : decode cL_law 453 = .ok (.aload_n 1, 1) := by decide +kernel
theorem dL_law_454 : decode cL_law 454 = .ok (.aload_n 0, 1) := by decide +kernel
theorem dL_law_455 : decode cL_law 455 = .ok (.iload 4, 2) := by decide +kernel
theorem dL_law_457 : decode cL_law 457 = .ok (.iconst 1, 1) := by decide +kernel
theorem dL_law_458 : decode cL_law 458 = .ok (.iadd, 1) := by decide +kernel
theorem dL_law_459 : decode cL_law 459 = .ok (.iaload, 1) := by decide +kernel
theorem dL_law_460 : decode cL_law 460 = .ok (.invokevirtual 55, 3) := by decide +kernel
theorem dL_law_463 : decode cL_law 463 = .ok (.aload_n 2, 1) := by decide +kernel
theorem dL_law_464 : decode cL_law 464 = .ok (.aload_n 0, 1) := by decide +kernel
theorem dL_law_465 : decode cL_law 465 = .ok (.iload 4, 2) := by decide +kernel
theorem dL_law_467 : decode cL_law 467 = .ok (.iconst 1, 1) := by decide +kernel
theorem dL_law_468 : decode cL_law 468 = .ok (.iadd, 1) := by decide +kernel
theorem dL_law_469 : decode cL_law 469 = .ok (.iaload, 1) := by decide +kernel
theorem dL_law_470 : decode cL_law 470 = .ok (.invokevirtual 58, 3) := by decide +kernel
theorem dL_law_473 : decode cL_law 473 = .ok (.if_icmp .eq 447, 3) := by decide +kernel
theorem dL_law_476 : decode cL_law 476 = .ok (.iconst 0, 1) := by decide +kernel
theorem dL_law_477 : decode cL_law 477 = .ok (.ireturn, 1) := by decide +kernel
theorem dL_law_478 : decode cL_law 478 = .ok (.aload_n 1, 1) := by decide +kernel
theorem dL_law_479 : decode cL_law 479 = .ok (.aload_n 0, 1) := by decide +kernel
theorem dL_law_480 : decode cL_law 480 = .ok (.iload 4, 2) := by decide +kernel
theorem dL_law_482 : decode cL_law 482 = .ok (.iconst 1, 1) := by decide +kernel
theorem dL_law_483 : decode cL_law 483 = .ok (.iadd, 1) := by decide +kernel
theorem dL_law_484 : decode cL_law 484 = .ok (.iaload, 1) := by decide +kernel
theorem dL_law_485 : decode cL_law 485 = .ok (.aload_n 0, 1) := by decide +kernel
theorem dL_law_486 : decode cL_law 486 = .ok (.iload 4, 2) := by decide +kernel
theorem dL_law_488 : decode cL_law 488 = .ok (.iconst 2, 1) := by decide +kernel
theorem dL_law_489 : decode cL_law 489 = .ok (.iadd, 1) := by decide +kernel
theorem dL_law_490 : decode cL_law 490 = .ok (.iaload, 1) := by decide +kernel
theorem dL_law_491 : decode cL_law 491 = .ok (.invokevirtual 59, 3) := by decide +kernel
theorem dL_law_494 : decode cL_law 494 = .ok (.aload_n 2, 1) := by decide +kernel
theorem dL_law_495 : decode cL_law 495 = .ok (.aload_n 0, 1) := by decide +kernel
theorem dL_law_496 : decode cL_law 496 = .ok (.iload 4, 2) := by decide +kernel
theorem dL_law_498 : decode cL_law 498 = .ok (.iconst 1, 1) := by decide +kernel
theorem dL_law_499 : decode cL_law 499 = .ok (.iadd, 1) := by decide +kernel
theorem dL_law_500 : decode cL_law 500 = .ok (.iaload, 1) := by decide +kernel
theorem dL_law_501 : decode cL_law 501 = .ok (.aload_n 0, 1) := by decide +kernel
theorem dL_law_502 : decode cL_law 502 = .ok (.iload 4, 2) := by decide +kernel
theorem dL_law_504 : decode cL_law 504 = .ok (.iconst 2, 1) := by decide +kernel
theorem dL_law_505 : decode cL_law 505 = .ok (.iadd, 1) := by decide +kernel
theorem dL_law_506 : decode cL_law 506 = .ok (.iaload, 1) := by decide +kernel
theorem dL_law_507 : decode cL_law 507 = .ok (.invokevirtual 62, 3) := by decide +kernel
theorem dL_law_510 : decode cL_law 510 = .ok (.if_icmp .eq 410, 3) := by decide +kernel
theorem dL_law_513 : decode cL_law 513 = .ok (.iconst 0, 1) := by decide +kernel
theorem dL_law_514 : decode cL_law 514 = .ok (.ireturn, 1) := by decide +kernel
theorem dL_law_515 : decode cL_law 515 = .ok (.aload_n 1, 1) := by decide +kernel
theorem dL_law_516 : decode cL_law 516 = .ok (.invokevirtual 63, 3) := by decide +kernel
theorem dL_law_519 : decode cL_law 519 = .ok (.aload_n 2, 1) := by decide +kernel
theorem dL_law_520 : decode cL_law 520 = .ok (.invokevirtual 67, 3) := by decide +kernel
theorem dL_law_523 : decode cL_law 523 = .ok (.if_icmp .eq 397, 3) := by decide +kernel
theorem dL_law_526 : decode cL_law 526 = .ok (.iconst 0, 1) := by decide +kernel
theorem dL_law_527 : decode cL_law 527 = .ok (.ireturn, 1) := by decide +kernel
theorem dL_law_528 : decode cL_law 528 = .ok (.aload_n 1, 1) := by decide +kernel
theorem dL_law_529 : decode cL_law 529 = .ok (.aload_n 0, 1) := by decide +kernel
theorem dL_law_530 : decode cL_law 530 = .ok (.iload 4, 2) := by decide +kernel
theorem dL_law_532 : decode cL_law 532 = .ok (.iconst 1, 1) := by decide +kernel
theorem dL_law_533 : decode cL_law 533 = .ok (.iadd, 1) := by decide +kernel
theorem dL_law_534 : decode cL_law 534 = .ok (.iaload, 1) := by decide +kernel
theorem dL_law_535 : decode cL_law 535 = .ok (.aload_n 0, 1) := by decide +kernel
theorem dL_law_536 : decode cL_law 536 = .ok (.iload 4, 2) := by decide +kernel
theorem dL_law_538 : decode cL_law 538 = .ok (.iconst 2, 1) := by decide +kernel
theorem dL_law_539 : decode cL_law 539 = .ok (.iadd, 1) := by decide +kernel
theorem dL_law_540 : decode cL_law 540 = .ok (.iaload, 1) := by decide +kernel
theorem dL_law_541 : decode cL_law 541 = .ok (.invokevirtual 68, 3) := by decide +kernel
theorem dL_law_544 : decode cL_law 544 = .ok (.aload_n 2, 1) := by decide +kernel
theorem dL_law_545 : decode cL_law 545 = .ok (.aload_n 0, 1) := by decide +kernel
theorem dL_law_546 : decode cL_law 546 = .ok (.iload 4, 2) := by decide +kernel
theorem dL_law_548 : decode cL_law 548 = .ok (.iconst 1, 1) := by decide +kernel
theorem dL_law_549 : decode cL_law 549 = .ok (.iadd, 1) := by decide +kernel
theorem dL_law_550 : decode cL_law 550 = .ok (.iaload, 1) := by decide +kernel
theorem dL_law_551 : decode cL_law 551 = .ok (.aload_n 0, 1) := by decide +kernel
theorem dL_law_552 : decode cL_law 552 = .ok (.iload 4, 2) := by decide +kernel
theorem dL_law_554 : decode cL_law 554 = .ok (.iconst 2, 1) := by decide +kernel
theorem dL_law_555 : decode cL_law 555 = .ok (.iadd, 1) := by decide +kernel
theorem dL_law_556 : decode cL_law 556 = .ok (.iaload, 1) := by decide +kernel
theorem dL_law_557 : decode cL_law 557 = .ok (.invokevirtual 71, 3) := by decide +kernel
theorem dL_law_560 : decode cL_law 560 = .ok (.lcmp, 1) := by decide +kernel
theorem dL_law_561 : decode cL_law 561 = .ok (.ifCond .eq 359, 3) := by decide +kernel
theorem dL_law_564 : decode cL_law 564 = .ok (.iconst 0, 1) := by decide +kernel
theorem dL_law_565 : decode cL_law 565 = .ok (.ireturn, 1) := by decide +kernel
theorem dL_law_566 : decode cL_law 566 = .ok (.aload_n 1, 1) := by decide +kernel
theorem dL_law_567 : decode cL_law 567 = .ok (.aload_n 0, 1) := by decide +kernel
theorem dL_law_568 : decode cL_law 568 = .ok (.iload 4, 2) := by decide +kernel
theorem dL_law_570 : decode cL_law 570 = .ok (.iconst 1, 1) := by decide +kernel
theorem dL_law_571 : decode cL_law 571 = .ok (.iadd, 1) := by decide +kernel
theorem dL_law_572 : decode cL_law 572 = .ok (.iaload, 1) := by decide +kernel
theorem dL_law_573 : decode cL_law 573 = .ok (.invokevirtual 72, 3) := by decide +kernel
theorem dL_law_576 : decode cL_law 576 = .ok (.aload_n 2, 1) := by decide +kernel
theorem dL_law_577 : decode cL_law 577 = .ok (.aload_n 0, 1) := by decide +kernel
theorem dL_law_578 : decode cL_law 578 = .ok (.iload 4, 2) := by decide +kernel
theorem dL_law_580 : decode cL_law 580 = .ok (.iconst 1, 1) := by decide +kernel
theorem dL_law_581 : decode cL_law 581 = .ok (.iadd, 1) := by decide +kernel
theorem dL_law_582 : decode cL_law 582 = .ok (.iaload, 1) := by decide +kernel
theorem dL_law_583 : decode cL_law 583 = .ok (.invokevirtual 75, 3) := by decide +kernel
theorem dL_law_586 : decode cL_law 586 = .ok (.if_icmp .eq 334, 3) := by decide +kernel
theorem dL_law_589 : decode cL_law 589 = .ok (.iconst 0, 1) := by decide +kernel
theorem dL_law_590 : decode cL_law 590 = .ok (.ireturn, 1) := by decide +kernel
theorem dL_law_591 : decode cL_law 591 = .ok (.aload_n 1, 1) := by decide +kernel
theorem dL_law_592 : decode cL_law 592 = .ok (.aload_n 0, 1) := by decide +kernel
theorem dL_law_593 : decode cL_law 593 = .ok (.iload 4, 2) := by decide +kernel
theorem dL_law_595 : decode cL_law 595 = .ok (.iconst 1, 1) := by decide +kernel
theorem dL_law_596 : decode cL_law 596 = .ok (.iadd, 1) := by decide +kernel
theorem dL_law_597 : decode cL_law 597 = .ok (.iaload, 1) := by decide +kernel
theorem dL_law_598 : decode cL_law 598 = .ok (.aload_n 0, 1) := by decide +kernel
theorem dL_law_599 : decode cL_law 599 = .ok (.iload 4, 2) := by decide +kernel
theorem dL_law_601 : decode cL_law 601 = .ok (.iconst 2, 1) := by decide +kernel
theorem dL_law_602 : decode cL_law 602 = .ok (.iadd, 1) := by decide +kernel
theorem dL_law_603 : decode cL_law 603 = .ok (.iaload, 1) := by decide +kernel
theorem dL_law_604 : decode cL_law 604 = .ok (.aload_n 0, 1) := by decide +kernel
theorem dL_law_605 : decode cL_law 605 = .ok (.iload 4, 2) := by decide +kernel
theorem dL_law_607 : decode cL_law 607 = .ok (.iconst 3, 1) := by decide +kernel
theorem dL_law_608 : decode cL_law 608 = .ok (.iadd, 1) := by decide +kernel
theorem dL_law_609 : decode cL_law 609 = .ok (.iaload, 1) := by decide +kernel
theorem dL_law_610 : decode cL_law 610 = .ok (.aload_n 0, 1) := by decide +kernel
theorem dL_law_611 : decode cL_law 611 = .ok (.iload 4, 2) := by decide +kernel
theorem dL_law_613 : decode cL_law 613 = .ok (.iconst 4, 1) := by decide +kernel
theorem dL_law_614 : decode cL_law 614 = .ok (.iadd, 1) := by decide +kernel
theorem dL_law_615 : decode cL_law 615 = .ok (.iaload, 1) := by decide +kernel
theorem dL_law_616 : decode cL_law 616 = .ok (.invokevirtual 76, 3) := by decide +kernel
theorem dL_law_619 : decode cL_law 619 = .ok (.aload_n 2, 1) := by decide +kernel
theorem dL_law_620 : decode cL_law 620 = .ok (.aload_n 0, 1) := by decide +kernel
theorem dL_law_621 : decode cL_law 621 = .ok (.iload 4, 2) := by decide +kernel
theorem dL_law_623 : decode cL_law 623 = .ok (.iconst 1, 1) := by decide +kernel
theorem dL_law_624 : decode cL_law 624 = .ok (.iadd, 1) := by decide +kernel
theorem dL_law_625 : decode cL_law 625 = .ok (.iaload, 1) := by decide +kernel
theorem dL_law_626 : decode cL_law 626 = .ok (.aload_n 0, 1) := by decide +kernel
theorem dL_law_627 : decode cL_law 627 = .ok (.iload 4, 2) := by decide +kernel
theorem dL_law_629 : decode cL_law 629 = .ok (.iconst 2, 1) := by decide +kernel
theorem dL_law_630 : decode cL_law 630 = .ok (.iadd, 1) := by decide +kernel
theorem dL_law_631 : decode cL_law 631 = .ok (.iaload, 1) := by decide +kernel
theorem dL_law_632 : decode cL_law 632 = .ok (.aload_n 0, 1) := by decide +kernel
theorem dL_law_633 : decode cL_law 633 = .ok (.iload 4, 2) := by decide +kernel
theorem dL_law_635 : decode cL_law 635 = .ok (.iconst 3, 1) := by decide +kernel
theorem dL_law_636 : decode cL_law 636 = .ok (.iadd, 1) := by decide +kernel
theorem dL_law_637 : decode cL_law 637 = .ok (.iaload, 1) := by decide +kernel
theorem dL_law_638 : decode cL_law 638 = .ok (.aload_n 0, 1) := by decide +kernel
theorem dL_law_639 : decode cL_law 639 = .ok (.iload 4, 2) := by decide +kernel
theorem dL_law_641 : decode cL_law 641 = .ok (.iconst 4, 1) := by decide +kernel
theorem dL_law_642 : decode cL_law 642 = .ok (.iadd, 1) := by decide +kernel
theorem dL_law_643 : decode cL_law 643 = .ok (.iaload, 1) := by decide +kernel
theorem dL_law_644 : decode cL_law 644 = .ok (.invokevirtual 80, 3) := by decide +kernel
theorem dL_law_647 : decode cL_law 647 = .ok (.if_icmp .eq 273, 3) := by decide +kernel
theorem dL_law_650 : decode cL_law 650 = .ok (.iconst 0, 1) := by decide +kernel
theorem dL_law_651 : decode cL_law 651 = .ok (.ireturn, 1) := by decide +kernel
theorem dL_law_652 : decode cL_law 652 = .ok (.aload_n 1, 1) := by decide +kernel
theorem dL_law_653 : decode cL_law 653 = .ok (.aload_n 0, 1) := by decide +kernel
theorem dL_law_654 : decode cL_law 654 = .ok (.iload 4, 2) := by decide +kernel
theorem dL_law_656 : decode cL_law 656 = .ok (.iconst 1, 1) := by decide +kernel
theorem dL_law_657 : decode cL_law 657 = .ok (.iadd, 1) := by decide +kernel
theorem dL_law_658 : decode cL_law 658 = .ok (.iaload, 1) := by decide +kernel
theorem dL_law_659 : decode cL_law 659 = .ok (.aload_n 0, 1) := by decide +kernel
theorem dL_law_660 : decode cL_law 660 = .ok (.iload 4, 2) := by decide +kernel
theorem dL_law_662 : decode cL_law 662 = .ok (.iconst 2, 1) := by decide +kernel
theorem dL_law_663 : decode cL_law 663 = .ok (.iadd, 1) := by decide +kernel
theorem dL_law_664 : decode cL_law 664 = .ok (.iaload, 1) := by decide +kernel
theorem dL_law_665 : decode cL_law 665 = .ok (.invokevirtual 81, 3) := by decide +kernel
theorem dL_law_668 : decode cL_law 668 = .ok (.aload_n 2, 1) := by decide +kernel
theorem dL_law_669 : decode cL_law 669 = .ok (.aload_n 0, 1) := by decide +kernel
theorem dL_law_670 : decode cL_law 670 = .ok (.iload 4, 2) := by decide +kernel
theorem dL_law_672 : decode cL_law 672 = .ok (.iconst 1, 1) := by decide +kernel
theorem dL_law_673 : decode cL_law 673 = .ok (.iadd, 1) := by decide +kernel
theorem dL_law_674 : decode cL_law 674 = .ok (.iaload, 1) := by decide +kernel
theorem dL_law_675 : decode cL_law 675 = .ok (.aload_n 0, 1) := by decide +kernel
theorem dL_law_676 : decode cL_law 676 = .ok (.iload 4, 2) := by decide +kernel
theorem dL_law_678 : decode cL_law 678 = .ok (.iconst 2, 1) := by decide +kernel
theorem dL_law_679 : decode cL_law 679 = .ok (.iadd, 1) := by decide +kernel
theorem dL_law_680 : decode cL_law 680 = .ok (.iaload, 1) := by decide +kernel
theorem dL_law_681 : decode cL_law 681 = .ok (.invokevirtual 84, 3) := by decide +kernel
theorem dL_law_684 : decode cL_law 684 = .ok (.if_icmp .eq 236, 3) := by decide +kernel
theorem dL_law_687 : decode cL_law 687 = .ok (.iconst 0, 1) := by decide +kernel
theorem dL_law_688 : decode cL_law 688 = .ok (.ireturn, 1) := by decide +kernel
theorem dL_law_689 : decode cL_law 689 = .ok (.aload_n 1, 1) := by decide +kernel
theorem dL_law_690 : decode cL_law 690 = .ok (.aload_n 0, 1) := by decide +kernel
theorem dL_law_691 : decode cL_law 691 = .ok (.iload 4, 2) := by decide +kernel
theorem dL_law_693 : decode cL_law 693 = .ok (.iconst 1, 1) := by decide +kernel
theorem dL_law_694 : decode cL_law 694 = .ok (.iadd, 1) := by decide +kernel
theorem dL_law_695 : decode cL_law 695 = .ok (.iaload, 1) := by decide +kernel
theorem dL_law_696 : decode cL_law 696 = .ok (.invokevirtual 85, 3) := by decide +kernel
theorem dL_law_699 : decode cL_law 699 = .ok (.aload_n 2, 1) := by decide +kernel
theorem dL_law_700 : decode cL_law 700 = .ok (.aload_n 0, 1) := by decide +kernel
theorem dL_law_701 : decode cL_law 701 = .ok (.iload 4, 2) := by decide +kernel
theorem dL_law_703 : decode cL_law 703 = .ok (.iconst 1, 1) := by decide +kernel
theorem dL_law_704 : decode cL_law 704 = .ok (.iadd, 1) := by decide +kernel
theorem dL_law_705 : decode cL_law 705 = .ok (.iaload, 1) := by decide +kernel
theorem dL_law_706 : decode cL_law 706 = .ok (.invokevirtual 88, 3) := by decide +kernel
theorem dL_law_709 : decode cL_law 709 = .ok (.if_icmp .eq 211, 3) := by decide +kernel
theorem dL_law_712 : decode cL_law 712 = .ok (.iconst 0, 1) := by decide +kernel
theorem dL_law_713 : decode cL_law 713 = .ok (.ireturn, 1) := by decide +kernel
theorem dL_law_714 : decode cL_law 714 = .ok (.aload_n 1, 1) := by decide +kernel
theorem dL_law_715 : decode cL_law 715 = .ok (.aload_n 0, 1) := by decide +kernel
theorem dL_law_716 : decode cL_law 716 = .ok (.iload 4, 2) := by decide +kernel
theorem dL_law_718 : decode cL_law 718 = .ok (.iconst 1, 1) := by decide +kernel
theorem dL_law_719 : decode cL_law 719 = .ok (.iadd, 1) := by decide +kernel
theorem dL_law_720 : decode cL_law 720 = .ok (.iaload, 1) := by decide +kernel
theorem dL_law_721 : decode cL_law 721 = .ok (.invokevirtual 89, 3) := by decide +kernel
theorem dL_law_724 : decode cL_law 724 = .ok (.aload_n 2, 1) := by decide +kernel
theorem dL_law_725 : decode cL_law 725 = .ok (.aload_n 0, 1) := by decide +kernel
theorem dL_law_726 : decode cL_law 726 = .ok (.iload 4, 2) := by decide +kernel
theorem dL_law_728 : decode cL_law 728 = .ok (.iconst 1, 1) := by decide +kernel
theorem dL_law_729 : decode cL_law 729 = .ok (.iadd, 1) := by decide +kernel
theorem dL_law_730 : decode cL_law 730 = .ok (.iaload, 1) := by decide +kernel
theorem dL_law_731 : decode cL_law 731 = .ok (.invokevirtual 92, 3) := by decide +kernel
theorem dL_law_734 : decode cL_law 734 = .ok (.if_icmp .eq 186, 3) := by decide +kernel
theorem dL_law_737 : decode cL_law 737 = .ok (.iconst 0, 1) := by decide +kernel
theorem dL_law_738 : decode cL_law 738 = .ok (.ireturn, 1) := by decide +kernel
theorem dL_law_739 : decode cL_law 739 = .ok (.aload_n 1, 1) := by decide +kernel
theorem dL_law_740 : decode cL_law 740 = .ok (.aload_n 0, 1) := by decide +kernel
theorem dL_law_741 : decode cL_law 741 = .ok (.iload 4, 2) := by decide +kernel
theorem dL_law_743 : decode cL_law 743 = .ok (.iconst 1, 1) := by decide +kernel
theorem dL_law_744 : decode cL_law 744 = .ok (.iadd, 1) := by decide +kernel
theorem dL_law_745 : decode cL_law 745 = .ok (.iaload, 1) := by decide +kernel
theorem dL_law_746 : decode cL_law 746 = .ok (.invokevirtual 93, 3) := by decide +kernel
theorem dL_law_749 : decode cL_law 749 = .ok (.aload_n 2, 1) := by decide +kernel
theorem dL_law_750 : decode cL_law 750 = .ok (.aload_n 0, 1) := by decide +kernel
theorem dL_law_751 : decode cL_law 751 = .ok (.iload 4, 2) := by decide +kernel
theorem dL_law_753 : decode cL_law 753 = .ok (.iconst 1, 1) := by decide +kernel
theorem dL_law_754 : decode cL_law 754 = .ok (.iadd, 1) := by decide +kernel
theorem dL_law_755 : decode cL_law 755 = .ok (.iaload, 1) := by decide +kernel
theorem dL_law_756 : decode cL_law 756 = .ok (.invokevirtual 96, 3) := by decide +kernel
theorem dL_law_759 : decode cL_law 759 = .ok (.if_icmp .eq 161, 3) := by decide +kernel
theorem dL_law_762 : decode cL_law 762 = .ok (.iconst 0, 1) := by decide +kernel
theorem dL_law_763 : decode cL_law 763 = .ok (.ireturn, 1) := by decide +kernel
theorem dL_law_764 : decode cL_law 764 = .ok (.aload_n 1, 1) := by decide +kernel
theorem dL_law_765 : decode cL_law 765 = .ok (.aload_n 0, 1) := by decide +kernel
theorem dL_law_766 : decode cL_law 766 = .ok (.iload 4, 2) := by decide +kernel
theorem dL_law_768 : decode cL_law 768 = .ok (.iconst 1, 1) := by decide +kernel
theorem dL_law_769 : decode cL_law 769 = .ok (.iadd, 1) := by decide +kernel
theorem dL_law_770 : decode cL_law 770 = .ok (.iaload, 1) := by decide +kernel
theorem dL_law_771 : decode cL_law 771 = .ok (.aload_n 0, 1) := by decide +kernel
theorem dL_law_772 : decode cL_law 772 = .ok (.iload 4, 2) := by decide +kernel
theorem dL_law_774 : decode cL_law 774 = .ok (.iconst 2, 1) := by decide +kernel
theorem dL_law_775 : decode cL_law 775 = .ok (.iadd, 1) := by decide +kernel
theorem dL_law_776 : decode cL_law 776 = .ok (.iaload, 1) := by decide +kernel
theorem dL_law_777 : decode cL_law 777 = .ok (.aload_n 0, 1) := by decide +kernel
theorem dL_law_778 : decode cL_law 778 = .ok (.iload 4, 2) := by decide +kernel
theorem dL_law_780 : decode cL_law 780 = .ok (.iconst 3, 1) := by decide +kernel
theorem dL_law_781 : decode cL_law 781 = .ok (.iadd, 1) := by decide +kernel
theorem dL_law_782 : decode cL_law 782 = .ok (.iaload, 1) := by decide +kernel
theorem dL_law_783 : decode cL_law 783 = .ok (.invokevirtual 97, 3) := by decide +kernel
theorem dL_law_786 : decode cL_law 786 = .ok (.aload_n 2, 1) := by decide +kernel
theorem dL_law_787 : decode cL_law 787 = .ok (.aload_n 0, 1) := by decide +kernel
theorem dL_law_788 : decode cL_law 788 = .ok (.iload 4, 2) := by decide +kernel
theorem dL_law_790 : decode cL_law 790 = .ok (.iconst 1, 1) := by decide +kernel
theorem dL_law_791 : decode cL_law 791 = .ok (.iadd, 1) := by decide +kernel
theorem dL_law_792 : decode cL_law 792 = .ok (.iaload, 1) := by decide +kernel
theorem dL_law_793 : decode cL_law 793 = .ok (.aload_n 0, 1) := by decide +kernel
theorem dL_law_794 : decode cL_law 794 = .ok (.iload 4, 2) := by decide +kernel
theorem dL_law_796 : decode cL_law 796 = .ok (.iconst 2, 1) := by decide +kernel
theorem dL_law_797 : decode cL_law 797 = .ok (.iadd, 1) := by decide +kernel
theorem dL_law_798 : decode cL_law 798 = .ok (.iaload, 1) := by decide +kernel
theorem dL_law_799 : decode cL_law 799 = .ok (.aload_n 0, 1) := by decide +kernel
theorem dL_law_800 : decode cL_law 800 = .ok (.iload 4, 2) := by decide +kernel
theorem dL_law_802 : decode cL_law 802 = .ok (.iconst 3, 1) := by decide +kernel
theorem dL_law_803 : decode cL_law 803 = .ok (.iadd, 1) := by decide +kernel
theorem dL_law_804 : decode cL_law 804 = .ok (.iaload, 1) := by decide +kernel
theorem dL_law_805 : decode cL_law 805 = .ok (.invokevirtual 101, 3) := by decide +kernel
theorem dL_law_808 : decode cL_law 808 = .ok (.lcmp, 1) := by decide +kernel
theorem dL_law_809 : decode cL_law 809 = .ok (.ifCond .eq 111, 3) := by decide +kernel
theorem dL_law_812 : decode cL_law 812 = .ok (.iconst 0, 1) := by decide +kernel
theorem dL_law_813 : decode cL_law 813 = .ok (.ireturn, 1) := by decide +kernel
theorem dL_law_814 : decode cL_law 814 = .ok (.aload_n 1, 1) := by decide +kernel
theorem dL_law_815 : decode cL_law 815 = .ok (.aload_n 0, 1) := by decide +kernel
theorem dL_law_816 : decode cL_law 816 = .ok (.iload 4, 2) := by decide +kernel
theorem dL_law_818 : decode cL_law 818 = .ok (.iconst 1, 1) := by decide +kernel
theorem dL_law_819 : decode cL_law 819 = .ok (.iadd, 1) := by decide +kernel
theorem dL_law_820 : decode cL_law 820 = .ok (.iaload, 1) := by decide +kernel
theorem dL_law_821 : decode cL_law 821 = .ok (.aload_n 0, 1) := by decide +kernel
theorem dL_law_822 : decode cL_law 822 = .ok (.iload 4, 2) := by decide +kernel
theorem dL_law_824 : decode cL_law 824 = .ok (.iconst 2, 1) := by decide +kernel
theorem dL_law_825 : decode cL_law 825 = .ok (.iadd, 1) := by decide +kernel
theorem dL_law_826 : decode cL_law 826 = .ok (.iaload, 1) := by decide +kernel
theorem dL_law_827 : decode cL_law 827 = .ok (.aload_n 3, 1) := by decide +kernel
theorem dL_law_828 : decode cL_law 828 = .ok (.invokestatic 102, 3) := by decide +kernel
theorem dL_law_831 : decode cL_law 831 = .ok (.istore 5, 2) := by decide +kernel
theorem dL_law_833 : decode cL_law 833 = .ok (.aload_n 2, 1) := by decide +kernel
theorem dL_law_834 : decode cL_law 834 = .ok (.aload_n 0, 1) := by decide +kernel
theorem dL_law_835 : decode cL_law 835 = .ok (.iload 4, 2) := by decide +kernel
theorem dL_law_837 : decode cL_law 837 = .ok (.iconst 1, 1) := by decide +kernel
theorem dL_law_838 : decode cL_law 838 = .ok (.iadd, 1) := by decide +kernel
theorem dL_law_839 : decode cL_law 839 = .ok (.iaload, 1) := by decide +kernel
theorem dL_law_840 : decode cL_law 840 = .ok (.aload_n 0, 1) := by decide +kernel
theorem dL_law_841 : decode cL_law 841 = .ok (.iload 4, 2) := by decide +kernel
theorem dL_law_843 : decode cL_law 843 = .ok (.iconst 2, 1) := by decide +kernel
theorem dL_law_844 : decode cL_law 844 = .ok (.iadd, 1) := by decide +kernel
theorem dL_law_845 : decode cL_law 845 = .ok (.iaload, 1) := by decide +kernel
theorem dL_law_846 : decode cL_law 846 = .ok (.invokevirtual 107, 3) := by decide +kernel
theorem dL_law_849 : decode cL_law 849 = .ok (.istore 6, 2) := by decide +kernel
theorem dL_law_851 : decode cL_law 851 = .ok (.aload_n 2, 1) := by decide +kernel
theorem dL_law_852 : decode cL_law 852 = .ok (.invokevirtual 108, 3) := by decide +kernel
theorem dL_law_855 : decode cL_law 855 = .ok (.iload 5, 2) := by decide +kernel
theorem dL_law_857 : decode cL_law 857 = .ok (.if_icmp .eq 5, 3) := by decide +kernel
theorem dL_law_860 : decode cL_law 860 = .ok (.iconst 0, 1) := by decide +kernel
theorem dL_law_861 : decode cL_law 861 = .ok (.ireturn, 1) := by decide +kernel
theorem dL_law_862 : decode cL_law 862 = .ok (.iload 5, 2) := by decide +kernel
theorem dL_law_864 : decode cL_law 864 = .ok (.ifCond .ne 15, 3) := by decide +kernel
theorem dL_law_867 : decode cL_law 867 = .ok (.aload_n 3, 1) := by decide +kernel
theorem dL_law_868 : decode cL_law 868 = .ok (.iconst 0, 1) := by decide +kernel
theorem dL_law_869 : decode cL_law 869 = .ok (.laload, 1) := by decide +kernel
theorem dL_law_870 : decode cL_law 870 = .ok (.iload 6, 2) := by decide +kernel
theorem dL_law_872 : decode cL_law 872 = .ok (.i2l, 1) := by decide +kernel
theorem dL_law_873 : decode cL_law 873 = .ok (.lcmp, 1) := by decide +kernel
theorem dL_law_874 : decode cL_law 874 = .ok (.ifCond .eq 5, 3) := by decide +kernel
theorem dL_law_877 : decode cL_law 877 = .ok (.iconst 0, 1) := by decide +kernel
theorem dL_law_878 : decode cL_law 878 = .ok (.ireturn, 1) := by decide +kernel
theorem dL_law_879 : decode cL_law 879 = .ok (.goto 41, 3) := by decide +kernel
theorem dL_law_882 : decode cL_law 882 = .ok (.aload_n 1, 1) := by decide +kernel
theorem dL_law_883 : decode cL_law 883 = .ok (.aload_n 0, 1) := by decide +kernel
theorem dL_law_884 : decode cL_law 884 = .ok (.iload 4, 2) := by decide +kernel
theorem dL_law_886 : decode cL_law 886 = .ok (.iconst 1, 1) := by decide +kernel
theorem dL_law_887 : decode cL_law 887 = .ok (.iadd, 1) := by decide +kernel
theorem dL_law_888 : decode cL_law 888 = .ok (.iaload, 1) := by decide +kernel
theorem dL_law_889 : decode cL_law 889 = .ok (.invokevirtual 111, 3) := by decide +kernel
theorem dL_law_892 : decode cL_law 892 = .ok (.aload_n 2, 1) := by decide +kernel
theorem dL_law_893 : decode cL_law 893 = .ok (.aload_n 0, 1) := by decide +kernel
theorem dL_law_894 : decode cL_law 894 = .ok (.iload 4, 2) := by decide +kernel
theorem dL_law_896 : decode cL_law 896 = .ok (.iconst 1, 1) := by decide +kernel
theorem dL_law_897 : decode cL_law 897 = .ok (.iadd, 1) := by decide +kernel
theorem dL_law_898 : decode cL_law 898 = .ok (.iaload, 1) := by decide +kernel
theorem dL_law_899 : decode cL_law 899 = .ok (.invokevirtual 114, 3) := by decide +kernel
theorem dL_law_902 : decode cL_law 902 = .ok (.if_icmp .eq 18, 3) := by decide +kernel
theorem dL_law_905 : decode cL_law 905 = .ok (.iconst 0, 1) := by decide +kernel
theorem dL_law_906 : decode cL_law 906 = .ok (.ireturn, 1) := by decide +kernel
theorem dL_law_907 : decode cL_law 907 = .ok (.aload_n 1, 1) := by decide +kernel
theorem dL_law_908 : decode cL_law 908 = .ok (.invokevirtual 115, 3) := by decide +kernel
theorem dL_law_911 : decode cL_law 911 = .ok (.aload_n 2, 1) := by decide +kernel
theorem dL_law_912 : decode cL_law 912 = .ok (.invokevirtual 118, 3) := by decide +kernel
theorem dL_law_915 : decode cL_law 915 = .ok (.if_icmp .eq 5, 3) := by decide +kernel
theorem dL_law_918 : decode cL_law 918 = .ok (.iconst 0, 1) := by decide +kernel
theorem dL_law_919 : decode cL_law 919 = .ok (.ireturn, 1) := by decide +kernel
theorem dL_law_920 : decode cL_law 920 = .ok (.iinc 4 5, 3) := by decide +kernel
theorem dL_law_923 : decode cL_law 923 = .ok (.goto (-900), 3) := by decide +kernel
theorem dL_law_926 : decode cL_law 926 = .ok (.iconst 1, 1) := by decide +kernel
theorem dL_law_927 : decode cL_law 927 = .ok (.ireturn, 1) := by decide +kernel
def lw_Q (_ : Array Value) (s : State) (o : Outcome) (t : State) : Prop := o = .returned (some (.int 1)) ∧ Framed s o t [] 603072 7194730
def lw_Z (below : List Frame) (a : Array Value) (s : State) : State → Prop := fun t => ∃ o, t.status = .running ∧ Ended t below o ∧ lw_Q a s o t
/-- the law's own end, with 1 on the stack, nothing written that was there before, its room as the claim has it -/
theorem lw_ret {p : Program} {l : Launch} {e : Env} {s : State} {m : MethodId} {below : List Frame} {meth : Method} {c : Code} {b : Nat} (hx : p.tables.exec = Jvm.exec) (hb : c.code = code) (hr : meth.sig.returnType = ret) (hlocks : meth.locks = false) {pc : Nat} {H : Heap} {ls : Array Slot} (hdg : decode code pc = .ok (.ireturn, 1)) : W p l e room_1 s m #[Value.ref b] below meth c H [] 603072 7194730 (lw_Z below #[Value.ref b] s) (F0 m pc ls [.int 1]) := by
  intro T hT X
  obtain ⟨fs, hret, hrun, hended, hW, hframe⟩ := X.leave (v := some (.int 1)) (hlocks := hlocks) (fun h => by rw [hr] at h; cases h)
  have hmeth' : T.vm.method? m = some meth := X.method'
  refine ⟨T.setFrames fs, ?_, .returned (some (.int 1)), hrun, hended, rfl, ⟨_, rfl⟩, hW, hframe⟩
  jvm_step X.here [X.here.top, hx, hb, hdg, hmeth', hr, ret, narrow_b1]
  (try refine ⟨rfl, ?_⟩); (try refine ⟨rfl, ?_⟩)
  first | (intro acts; rw [hret _ acts rfl rfl rfl]) | rw [hret _ _ rfl rfl rfl]
  exact Steps.refl _
set_option maxHeartbeats 4000000 in
theorem lawc_sign {V V2 : Ev} {bo sa : Nat} {p : Program} {l : Launch} {e : Env} {s : State} {m : MethodId} {b L N t : Nat} {xs : Nat → Int32} {below : List Frame} {meth : Method} {c : Code} {I : Nat → Wd → Wd → Prop} (ht6 : t < 600) (htr : l.stackTraces = false) (hops : OpsOK N 2000 I) (K : LwC V V2 bo sa p s m b L xs meth c) (hcs1 : 94 + t + 1 ≤ 603072 ∧ 31332 + 6 * t + 6 ≤ 7194730) {x4 : Int32} (hin1 : vp_in (x4 + 1) L) (hin2 : vp_in (x4 + 2) L) (hin3 : vp_in (x4 + 3) L) (hin4 : vp_in (x4 + 4) L)
    (next : ∀ (wc wm : Wd) (o : Nat → Int64), I (t + 1) wc wm → ∀ (H : Heap) (locs : List Loc) (ls : Array Slot), LwS V V2 bo s wc wm o H locs → lv_has ls 7 [(0, .ref b), (1, .ref (V.2.2 0)), (2, .ref (V2.2.2 0)), (3, .ref bo), (4, .int x4)] → W p l e room_1 s m #[Value.ref b] below meth c H locs (94 + t) (31332 + 6 * t) (lw_Z below #[Value.ref b] s) (F0 m 920 ls []))
    (next1 : ∀ (wc wm : Wd) (o : Nat → Int64), I (t + 1) wc wm → ∀ (H : Heap) (locs : List Loc) (ls : Array Slot), LwS V V2 bo s wc wm o H locs → lv_has ls 7 [(0, .ref b), (1, .ref (V.2.2 0)), (2, .ref (V2.2.2 0)), (3, .ref bo), (4, .int x4)] → W p l e room_1 s m #[Value.ref b] below meth c H locs (94 + t + 1) (31332 + 6 * t + 6) (lw_Z below #[Value.ref b] s) (F0 m 920 ls []))
    {wc wm : Wd} {o : Nat → Int64} {H : Heap} {locs : List Loc} {ls : Array Slot} (hI : I t wc wm) (h : LwS V V2 bo s wc wm o H locs) (hl : lv_has ls 7 [(0, .ref b), (1, .ref (V.2.2 0)), (2, .ref (V2.2.2 0)), (3, .ref bo), (4, .int x4)]) : W p l e room_1 s m #[Value.ref b] below meth c H locs (94 + t) (31332 + 6 * t) (lw_Z below #[Value.ref b] s) (F0 m 140 ls []) := by
  obtain ⟨hx, hb, hml, hown, hg, hrt, hlk, hKX⟩ := id K.1
  have hX := K.2.2.2.2.2.2.2.2.2.2.2.2.2.2.1
  have hbl := K.2.2.2.2.2.2.2.2.2.2.2.2.2.2.2
  have hbA : ¬ (fun q : Nat => s.heap.size ≤ q) b := Nat.not_le.mpr hbl
  have hcs : 94 + t ≤ 603072 ∧ 31332 + 6 * t ≤ 7194730 := ⟨by omega, by omega⟩
  obtain ⟨wc2, wm2, r, hc, hm, hI⟩ := hops.2.1 t wc wm (xs (x4 + 1).toNatClampNeg) (xs (x4 + 2).toNatClampNeg) ht6 hI
  refine lv_aload_n (pc := 140) hx hb dL_law_140 rfl (lv_at hl 1 rfl) ?_
  refine lv_aload_n (pc := 141) hx hb dL_law_141 rfl (lv_at hl 0 rfl) ?_
  refine lv_iload (pc := 142) hx hb dL_law_142 (lv_at hl 4 rfl) ?_
  refine lv_iconst (pc := 144) (v := 1) hx hb dL_law_144 (by decide) ?_
  refine lv_iadd (pc := 145) hx hb dL_law_145 ?_
  refine va_sld (pc := 146) hx hb hX hbl hbA h.2.2.2 hin1 dL_law_146 ?_
  refine lv_aload_n (pc := 147) hx hb dL_law_147 rfl (lv_at hl 0 rfl) ?_
  refine lv_iload (pc := 148) hx hb dL_law_148 (lv_at hl 4 rfl) ?_
  refine lv_iconst (pc := 150) (v := 2) hx hb dL_law_150 (by decide) ?_
  refine lv_iadd (pc := 151) hx hb dL_law_151 ?_
  refine va_sld (pc := 152) hx hb hX hbl hbA h.2.2.2 hin2 dL_law_152 ?_
  refine lw_callCI (pc := 153) (As := [.int (xs (x4 + 1).toNatClampNeg), .int (xs (x4 + 2).toNatClampNeg)]) (rest := []) K h (mX10_sign hc) cw_L_19 rfl rfl (Nat.le_of_ble_eq_true rfl) hl.1 hcs dL_law_153 (fun H locs h => ?_)
  refine lv_aload_n (pc := 156) hx hb dL_law_156 rfl (lv_at hl 2 rfl) ?_
  refine lv_aload_n (pc := 157) hx hb dL_law_157 rfl (lv_at hl 0 rfl) ?_
  refine lv_iload (pc := 158) hx hb dL_law_158 (lv_at hl 4 rfl) ?_
  refine lv_iconst (pc := 160) (v := 1) hx hb dL_law_160 (by decide) ?_
  refine lv_iadd (pc := 161) hx hb dL_law_161 ?_
  refine va_sld (pc := 162) hx hb hX hbl hbA h.2.2.2 hin1 dL_law_162 ?_
  refine lv_aload_n (pc := 163) hx hb dL_law_163 rfl (lv_at hl 0 rfl) ?_
  refine lv_iload (pc := 164) hx hb dL_law_164 (lv_at hl 4 rfl) ?_
  refine lv_iconst (pc := 166) (v := 2) hx hb dL_law_166 (by decide) ?_
  refine lv_iadd (pc := 167) hx hb dL_law_167 ?_
  refine va_sld (pc := 168) hx hb hX hbl hbA h.2.2.2 hin2 dL_law_168 ?_
  refine lw_callMI (pc := 169) (As := [.int (xs (x4 + 1).toNatClampNeg), .int (xs (x4 + 2).toNatClampNeg)]) (rest := [.int r]) K h (mX11_sign hm) cw_L_22 rfl rfl (Nat.le_of_ble_eq_true rfl) hl.1 hcs dL_law_169 (fun H locs h => ?_)
  refine lv_icmp_eq (pc := 172) (tgt := 920) hx hb dL_law_172 (by decide) (fun _ => ?_) (fun q => absurd rfl q)
  exact next wc2 wm2 o hI _ _ _ h hl
set_option maxHeartbeats 4000000 in
theorem lawc_variable {V V2 : Ev} {bo sa : Nat} {p : Program} {l : Launch} {e : Env} {s : State} {m : MethodId} {b L N t : Nat} {xs : Nat → Int32} {below : List Frame} {meth : Method} {c : Code} {I : Nat → Wd → Wd → Prop} (ht6 : t < 600) (htr : l.stackTraces = false) (hops : OpsOK N 2000 I) (K : LwC V V2 bo sa p s m b L xs meth c) (hcs1 : 94 + t + 1 ≤ 603072 ∧ 31332 + 6 * t + 6 ≤ 7194730) {x4 : Int32} (hin1 : vp_in (x4 + 1) L) (hin2 : vp_in (x4 + 2) L) (hin3 : vp_in (x4 + 3) L) (hin4 : vp_in (x4 + 4) L)
    (next : ∀ (wc wm : Wd) (o : Nat → Int64), I (t + 1) wc wm → ∀ (H : Heap) (locs : List Loc) (ls : Array Slot), LwS V V2 bo s wc wm o H locs → lv_has ls 7 [(0, .ref b), (1, .ref (V.2.2 0)), (2, .ref (V2.2.2 0)), (3, .ref bo), (4, .int x4)] → W p l e room_1 s m #[Value.ref b] below meth c H locs (94 + t) (31332 + 6 * t) (lw_Z below #[Value.ref b] s) (F0 m 920 ls []))
    (next1 : ∀ (wc wm : Wd) (o : Nat → Int64), I (t + 1) wc wm → ∀ (H : Heap) (locs : List Loc) (ls : Array Slot), LwS V V2 bo s wc wm o H locs → lv_has ls 7 [(0, .ref b), (1, .ref (V.2.2 0)), (2, .ref (V2.2.2 0)), (3, .ref bo), (4, .int x4)] → W p l e room_1 s m #[Value.ref b] below meth c H locs (94 + t + 1) (31332 + 6 * t + 6) (lw_Z below #[Value.ref b] s) (F0 m 920 ls []))
    {wc wm : Wd} {o : Nat → Int64} {H : Heap} {locs : List Loc} {ls : Array Slot} (hI : I t wc wm) (h : LwS V V2 bo s wc wm o H locs) (hl : lv_has ls 7 [(0, .ref b), (1, .ref (V.2.2 0)), (2, .ref (V2.2.2 0)), (3, .ref bo), (4, .int x4)]) : W p l e room_1 s m #[Value.ref b] below meth c H locs (94 + t) (31332 + 6 * t) (lw_Z below #[Value.ref b] s) (F0 m 177 ls []) := by
  obtain ⟨hx, hb, hml, hown, hg, hrt, hlk, hKX⟩ := id K.1
  have hX := K.2.2.2.2.2.2.2.2.2.2.2.2.2.2.1
  have hbl := K.2.2.2.2.2.2.2.2.2.2.2.2.2.2.2
  have hbA : ¬ (fun q : Nat => s.heap.size ≤ q) b := Nat.not_le.mpr hbl
  have hcs : 94 + t ≤ 603072 ∧ 31332 + 6 * t ≤ 7194730 := ⟨by omega, by omega⟩
  obtain ⟨wc2, wm2, r, hc, hm, hI⟩ := hops.2.2.1 t wc wm (xs (x4 + 1).toNatClampNeg) ht6 hI
  refine lv_aload_n (pc := 177) hx hb dL_law_177 rfl (lv_at hl 1 rfl) ?_
  refine lv_aload_n (pc := 178) hx hb dL_law_178 rfl (lv_at hl 0 rfl) ?_
  refine lv_iload (pc := 179) hx hb dL_law_179 (lv_at hl 4 rfl) ?_
  refine lv_iconst (pc := 181) (v := 1) hx hb dL_law_181 (by decide) ?_
  refine lv_iadd (pc := 182) hx hb dL_law_182 ?_
  refine va_sld (pc := 183) hx hb hX hbl hbA h.2.2.2 hin1 dL_law_183 ?_
  refine lw_callCI (pc := 184) (As := [.int (xs (x4 + 1).toNatClampNeg)]) (rest := []) K h (mX10_variable hc) cw_L_23 rfl rfl (Nat.le_of_ble_eq_true rfl) hl.1 hcs dL_law_184 (fun H locs h => ?_)
  refine lv_aload_n (pc := 187) hx hb dL_law_187 rfl (lv_at hl 2 rfl) ?_
  refine lv_aload_n (pc := 188) hx hb dL_law_188 rfl (lv_at hl 0 rfl) ?_
  refine lv_iload (pc := 189) hx hb dL_law_189 (lv_at hl 4 rfl) ?_
  refine lv_iconst (pc := 191) (v := 1) hx hb dL_law_191 (by decide) ?_
  refine lv_iadd (pc := 192) hx hb dL_law_192 ?_
  refine va_sld (pc := 193) hx hb hX hbl hbA h.2.2.2 hin1 dL_law_193 ?_
  refine lw_callMI (pc := 194) (As := [.int (xs (x4 + 1).toNatClampNeg)]) (rest := [.int r]) K h (mX11_variable hm) cw_L_27 rfl rfl (Nat.le_of_ble_eq_true rfl) hl.1 hcs dL_law_194 (fun H locs h => ?_)
  refine lv_icmp_eq (pc := 197) (tgt := 920) hx hb dL_law_197 (by decide) (fun _ => ?_) (fun q => absurd rfl q)
  exact next wc2 wm2 o hI _ _ _ h hl
set_option maxHeartbeats 4000000 in
theorem lawc_term {V V2 : Ev} {bo sa : Nat} {p : Program} {l : Launch} {e : Env} {s : State} {m : MethodId} {b L N t : Nat} {xs : Nat → Int32} {below : List Frame} {meth : Method} {c : Code} {I : Nat → Wd → Wd → Prop} (ht6 : t < 600) (htr : l.stackTraces = false) (hops : OpsOK N 2000 I) (K : LwC V V2 bo sa p s m b L xs meth c) (hcs1 : 94 + t + 1 ≤ 603072 ∧ 31332 + 6 * t + 6 ≤ 7194730) {x4 : Int32} (hin1 : vp_in (x4 + 1) L) (hin2 : vp_in (x4 + 2) L) (hin3 : vp_in (x4 + 3) L) (hin4 : vp_in (x4 + 4) L)
    (next : ∀ (wc wm : Wd) (o : Nat → Int64), I (t + 1) wc wm → ∀ (H : Heap) (locs : List Loc) (ls : Array Slot), LwS V V2 bo s wc wm o H locs → lv_has ls 7 [(0, .ref b), (1, .ref (V.2.2 0)), (2, .ref (V2.2.2 0)), (3, .ref bo), (4, .int x4)] → W p l e room_1 s m #[Value.ref b] below meth c H locs (94 + t) (31332 + 6 * t) (lw_Z below #[Value.ref b] s) (F0 m 920 ls []))
    (next1 : ∀ (wc wm : Wd) (o : Nat → Int64), I (t + 1) wc wm → ∀ (H : Heap) (locs : List Loc) (ls : Array Slot), LwS V V2 bo s wc wm o H locs → lv_has ls 7 [(0, .ref b), (1, .ref (V.2.2 0)), (2, .ref (V2.2.2 0)), (3, .ref bo), (4, .int x4)] → W p l e room_1 s m #[Value.ref b] below meth c H locs (94 + t + 1) (31332 + 6 * t + 6) (lw_Z below #[Value.ref b] s) (F0 m 920 ls []))
    {wc wm : Wd} {o : Nat → Int64} {H : Heap} {locs : List Loc} {ls : Array Slot} (hI : I t wc wm) (h : LwS V V2 bo s wc wm o H locs) (hl : lv_has ls 7 [(0, .ref b), (1, .ref (V.2.2 0)), (2, .ref (V2.2.2 0)), (3, .ref bo), (4, .int x4)]) : W p l e room_1 s m #[Value.ref b] below meth c H locs (94 + t) (31332 + 6 * t) (lw_Z below #[Value.ref b] s) (F0 m 202 ls []) := by
  obtain ⟨hx, hb, hml, hown, hg, hrt, hlk, hKX⟩ := id K.1
  have hX := K.2.2.2.2.2.2.2.2.2.2.2.2.2.2.1
  have hbl := K.2.2.2.2.2.2.2.2.2.2.2.2.2.2.2
  have hbA : ¬ (fun q : Nat => s.heap.size ≤ q) b := Nat.not_le.mpr hbl
  have hcs : 94 + t ≤ 603072 ∧ 31332 + 6 * t ≤ 7194730 := ⟨by omega, by omega⟩
  obtain ⟨wc2, wm2, r, hc, hm, hI⟩ := hops.2.2.2.1 t wc wm (xs (x4 + 1).toNatClampNeg) (xs (x4 + 2).toNatClampNeg) (xs (x4 + 3).toNatClampNeg) ht6 hI
  refine lv_aload_n (pc := 202) hx hb dL_law_202 rfl (lv_at hl 1 rfl) ?_
  refine lv_aload_n (pc := 203) hx hb dL_law_203 rfl (lv_at hl 0 rfl) ?_
  refine lv_iload (pc := 204) hx hb dL_law_204 (lv_at hl 4 rfl) ?_
  refine lv_iconst (pc := 206) (v := 1) hx hb dL_law_206 (by decide) ?_
  refine lv_iadd (pc := 207) hx hb dL_law_207 ?_
  refine va_sld (pc := 208) hx hb hX hbl hbA h.2.2.2 hin1 dL_law_208 ?_
  refine lv_aload_n (pc := 209) hx hb dL_law_209 rfl (lv_at hl 0 rfl) ?_
  refine lv_iload (pc := 210) hx hb dL_law_210 (lv_at hl 4 rfl) ?_
  refine lv_iconst (pc := 212) (v := 2) hx hb dL_law_212 (by decide) ?_
  refine lv_iadd (pc := 213) hx hb dL_law_213 ?_
  refine va_sld (pc := 214) hx hb hX hbl hbA h.2.2.2 hin2 dL_law_214 ?_
  refine lv_aload_n (pc := 215) hx hb dL_law_215 rfl (lv_at hl 0 rfl) ?_
  refine lv_iload (pc := 216) hx hb dL_law_216 (lv_at hl 4 rfl) ?_
  refine lv_iconst (pc := 218) (v := 3) hx hb dL_law_218 (by decide) ?_
  refine lv_iadd (pc := 219) hx hb dL_law_219 ?_
  refine va_sld (pc := 220) hx hb hX hbl hbA h.2.2.2 hin3 dL_law_220 ?_
  refine lw_callCI (pc := 221) (As := [.int (xs (x4 + 1).toNatClampNeg), .int (xs (x4 + 2).toNatClampNeg), .int (xs (x4 + 3).toNatClampNeg)]) (rest := []) K h (mX10_term hc) cw_L_28 rfl rfl (Nat.le_of_ble_eq_true rfl) hl.1 hcs dL_law_221 (fun H locs h => ?_)
  refine lv_aload_n (pc := 224) hx hb dL_law_224 rfl (lv_at hl 2 rfl) ?_
  refine lv_aload_n (pc := 225) hx hb dL_law_225 rfl (lv_at hl 0 rfl) ?_
  refine lv_iload (pc := 226) hx hb dL_law_226 (lv_at hl 4 rfl) ?_
  refine lv_iconst (pc := 228) (v := 1) hx hb dL_law_228 (by decide) ?_
  refine lv_iadd (pc := 229) hx hb dL_law_229 ?_
  refine va_sld (pc := 230) hx hb hX hbl hbA h.2.2.2 hin1 dL_law_230 ?_
  refine lv_aload_n (pc := 231) hx hb dL_law_231 rfl (lv_at hl 0 rfl) ?_
  refine lv_iload (pc := 232) hx hb dL_law_232 (lv_at hl 4 rfl) ?_
  refine lv_iconst (pc := 234) (v := 2) hx hb dL_law_234 (by decide) ?_
  refine lv_iadd (pc := 235) hx hb dL_law_235 ?_
  refine va_sld (pc := 236) hx hb hX hbl hbA h.2.2.2 hin2 dL_law_236 ?_
  refine lv_aload_n (pc := 237) hx hb dL_law_237 rfl (lv_at hl 0 rfl) ?_
  refine lv_iload (pc := 238) hx hb dL_law_238 (lv_at hl 4 rfl) ?_
  refine lv_iconst (pc := 240) (v := 3) hx hb dL_law_240 (by decide) ?_
  refine lv_iadd (pc := 241) hx hb dL_law_241 ?_
  refine va_sld (pc := 242) hx hb hX hbl hbA h.2.2.2 hin3 dL_law_242 ?_
  refine lw_callMI (pc := 243) (As := [.int (xs (x4 + 1).toNatClampNeg), .int (xs (x4 + 2).toNatClampNeg), .int (xs (x4 + 3).toNatClampNeg)]) (rest := [.int r]) K h (mX11_term hm) cw_L_32 rfl rfl (Nat.le_of_ble_eq_true rfl) hl.1 hcs dL_law_243 (fun H locs h => ?_)
  refine lv_icmp_eq (pc := 246) (tgt := 920) hx hb dL_law_246 (by decide) (fun _ => ?_) (fun q => absurd rfl q)
  exact next wc2 wm2 o hI _ _ _ h hl
set_option maxHeartbeats 4000000 in
theorem lawc_rule {V V2 : Ev} {bo sa : Nat} {p : Program} {l : Launch} {e : Env} {s : State} {m : MethodId} {b L N t : Nat} {xs : Nat → Int32} {below : List Frame} {meth : Method} {c : Code} {I : Nat → Wd → Wd → Prop} (ht6 : t < 600) (htr : l.stackTraces = false) (hops : OpsOK N 2000 I) (K : LwC V V2 bo sa p s m b L xs meth c) (hcs1 : 94 + t + 1 ≤ 603072 ∧ 31332 + 6 * t + 6 ≤ 7194730) {x4 : Int32} (hin1 : vp_in (x4 + 1) L) (hin2 : vp_in (x4 + 2) L) (hin3 : vp_in (x4 + 3) L) (hin4 : vp_in (x4 + 4) L)
    (next : ∀ (wc wm : Wd) (o : Nat → Int64), I (t + 1) wc wm → ∀ (H : Heap) (locs : List Loc) (ls : Array Slot), LwS V V2 bo s wc wm o H locs → lv_has ls 7 [(0, .ref b), (1, .ref (V.2.2 0)), (2, .ref (V2.2.2 0)), (3, .ref bo), (4, .int x4)] → W p l e room_1 s m #[Value.ref b] below meth c H locs (94 + t) (31332 + 6 * t) (lw_Z below #[Value.ref b] s) (F0 m 920 ls []))
    (next1 : ∀ (wc wm : Wd) (o : Nat → Int64), I (t + 1) wc wm → ∀ (H : Heap) (locs : List Loc) (ls : Array Slot), LwS V V2 bo s wc wm o H locs → lv_has ls 7 [(0, .ref b), (1, .ref (V.2.2 0)), (2, .ref (V2.2.2 0)), (3, .ref bo), (4, .int x4)] → W p l e room_1 s m #[Value.ref b] below meth c H locs (94 + t + 1) (31332 + 6 * t + 6) (lw_Z below #[Value.ref b] s) (F0 m 920 ls []))
    {wc wm : Wd} {o : Nat → Int64} {H : Heap} {locs : List Loc} {ls : Array Slot} (hI : I t wc wm) (h : LwS V V2 bo s wc wm o H locs) (hl : lv_has ls 7 [(0, .ref b), (1, .ref (V.2.2 0)), (2, .ref (V2.2.2 0)), (3, .ref bo), (4, .int x4)]) : W p l e room_1 s m #[Value.ref b] below meth c H locs (94 + t) (31332 + 6 * t) (lw_Z below #[Value.ref b] s) (F0 m 251 ls []) := by
  obtain ⟨hx, hb, hml, hown, hg, hrt, hlk, hKX⟩ := id K.1
  have hX := K.2.2.2.2.2.2.2.2.2.2.2.2.2.2.1
  have hbl := K.2.2.2.2.2.2.2.2.2.2.2.2.2.2.2
  have hbA : ¬ (fun q : Nat => s.heap.size ≤ q) b := Nat.not_le.mpr hbl
  have hcs : 94 + t ≤ 603072 ∧ 31332 + 6 * t ≤ 7194730 := ⟨by omega, by omega⟩
  obtain ⟨wc2, wm2, r, hc, hm, hI⟩ := hops.2.2.2.2.1 t wc wm (xs (x4 + 1).toNatClampNeg) (xs (x4 + 2).toNatClampNeg) ht6 hI
  refine lv_aload_n (pc := 251) hx hb dL_law_251 rfl (lv_at hl 1 rfl) ?_
  refine lv_aload_n (pc := 252) hx hb dL_law_252 rfl (lv_at hl 0 rfl) ?_
  refine lv_iload (pc := 253) hx hb dL_law_253 (lv_at hl 4 rfl) ?_
  refine lv_iconst (pc := 255) (v := 1) hx hb dL_law_255 (by decide) ?_
  refine lv_iadd (pc := 256) hx hb dL_law_256 ?_
  refine va_sld (pc := 257) hx hb hX hbl hbA h.2.2.2 hin1 dL_law_257 ?_
  refine lv_aload_n (pc := 258) hx hb dL_law_258 rfl (lv_at hl 0 rfl) ?_
  refine lv_iload (pc := 259) hx hb dL_law_259 (lv_at hl 4 rfl) ?_
  refine lv_iconst (pc := 261) (v := 2) hx hb dL_law_261 (by decide) ?_
  refine lv_iadd (pc := 262) hx hb dL_law_262 ?_
  refine va_sld (pc := 263) hx hb hX hbl hbA h.2.2.2 hin2 dL_law_263 ?_
  refine lw_callCI (pc := 264) (As := [.int (xs (x4 + 1).toNatClampNeg), .int (xs (x4 + 2).toNatClampNeg)]) (rest := []) K h (mX10_rule hc) cw_L_33 rfl rfl (Nat.le_of_ble_eq_true rfl) hl.1 hcs dL_law_264 (fun H locs h => ?_)
  refine lv_aload_n (pc := 267) hx hb dL_law_267 rfl (lv_at hl 2 rfl) ?_
  refine lv_aload_n (pc := 268) hx hb dL_law_268 rfl (lv_at hl 0 rfl) ?_
  refine lv_iload (pc := 269) hx hb dL_law_269 (lv_at hl 4 rfl) ?_
  refine lv_iconst (pc := 271) (v := 1) hx hb dL_law_271 (by decide) ?_
  refine lv_iadd (pc := 272) hx hb dL_law_272 ?_
  refine va_sld (pc := 273) hx hb hX hbl hbA h.2.2.2 hin1 dL_law_273 ?_
  refine lv_aload_n (pc := 274) hx hb dL_law_274 rfl (lv_at hl 0 rfl) ?_
  refine lv_iload (pc := 275) hx hb dL_law_275 (lv_at hl 4 rfl) ?_
  refine lv_iconst (pc := 277) (v := 2) hx hb dL_law_277 (by decide) ?_
  refine lv_iadd (pc := 278) hx hb dL_law_278 ?_
  refine va_sld (pc := 279) hx hb hX hbl hbA h.2.2.2 hin2 dL_law_279 ?_
  refine lw_callMI (pc := 280) (As := [.int (xs (x4 + 1).toNatClampNeg), .int (xs (x4 + 2).toNatClampNeg)]) (rest := [.int r]) K h (mX11_rule hm) cw_L_36 rfl rfl (Nat.le_of_ble_eq_true rfl) hl.1 hcs dL_law_280 (fun H locs h => ?_)
  refine lv_icmp_eq (pc := 283) (tgt := 920) hx hb dL_law_283 (by decide) (fun _ => ?_) (fun q => absurd rfl q)
  exact next wc2 wm2 o hI _ _ _ h hl
set_option maxHeartbeats 4000000 in
theorem lawc_on {V V2 : Ev} {bo sa : Nat} {p : Program} {l : Launch} {e : Env} {s : State} {m : MethodId} {b L N t : Nat} {xs : Nat → Int32} {below : List Frame} {meth : Method} {c : Code} {I : Nat → Wd → Wd → Prop} (ht6 : t < 600) (htr : l.stackTraces = false) (hops : OpsOK N 2000 I) (K : LwC V V2 bo sa p s m b L xs meth c) (hcs1 : 94 + t + 1 ≤ 603072 ∧ 31332 + 6 * t + 6 ≤ 7194730) {x4 : Int32} (hin1 : vp_in (x4 + 1) L) (hin2 : vp_in (x4 + 2) L) (hin3 : vp_in (x4 + 3) L) (hin4 : vp_in (x4 + 4) L)
    (next : ∀ (wc wm : Wd) (o : Nat → Int64), I (t + 1) wc wm → ∀ (H : Heap) (locs : List Loc) (ls : Array Slot), LwS V V2 bo s wc wm o H locs → lv_has ls 7 [(0, .ref b), (1, .ref (V.2.2 0)), (2, .ref (V2.2.2 0)), (3, .ref bo), (4, .int x4)] → W p l e room_1 s m #[Value.ref b] below meth c H locs (94 + t) (31332 + 6 * t) (lw_Z below #[Value.ref b] s) (F0 m 920 ls []))
    (next1 : ∀ (wc wm : Wd) (o : Nat → Int64), I (t + 1) wc wm → ∀ (H : Heap) (locs : List Loc) (ls : Array Slot), LwS V V2 bo s wc wm o H locs → lv_has ls 7 [(0, .ref b), (1, .ref (V.2.2 0)), (2, .ref (V2.2.2 0)), (3, .ref bo), (4, .int x4)] → W p l e room_1 s m #[Value.ref b] below meth c H locs (94 + t + 1) (31332 + 6 * t + 6) (lw_Z below #[Value.ref b] s) (F0 m 920 ls []))
    {wc wm : Wd} {o : Nat → Int64} {H : Heap} {locs : List Loc} {ls : Array Slot} (hI : I t wc wm) (h : LwS V V2 bo s wc wm o H locs) (hl : lv_has ls 7 [(0, .ref b), (1, .ref (V.2.2 0)), (2, .ref (V2.2.2 0)), (3, .ref bo), (4, .int x4)]) : W p l e room_1 s m #[Value.ref b] below meth c H locs (94 + t) (31332 + 6 * t) (lw_Z below #[Value.ref b] s) (F0 m 288 ls []) := by
  obtain ⟨hx, hb, hml, hown, hg, hrt, hlk, hKX⟩ := id K.1
  have hX := K.2.2.2.2.2.2.2.2.2.2.2.2.2.2.1
  have hbl := K.2.2.2.2.2.2.2.2.2.2.2.2.2.2.2
  have hbA : ¬ (fun q : Nat => s.heap.size ≤ q) b := Nat.not_le.mpr hbl
  have hcs : 94 + t ≤ 603072 ∧ 31332 + 6 * t ≤ 7194730 := ⟨by omega, by omega⟩
  obtain ⟨bb, hbb, hbe⟩ : ∃ bb : Int32, (bb = 0 ∨ bb = 1) ∧ ((xs (x4 + 2).toNatClampNeg) = 0 → bb = 0) ∧ (¬ (xs (x4 + 2).toNatClampNeg) = 0 → bb = 1) := by
    by_cases q : (xs (x4 + 2).toNatClampNeg) = 0
    · exact ⟨0, Or.inl rfl, fun _ => rfl, fun h => absurd q h⟩
    · exact ⟨1, Or.inr rfl, fun h => absurd h q, fun _ => rfl⟩
  obtain ⟨wc2, wm2, r, hc, hm, hI⟩ := hops.2.2.2.2.2.1 t wc wm (xs (x4 + 1).toNatClampNeg) bb ht6 hbb hI
  refine lv_aload_n (pc := 288) hx hb dL_law_288 rfl (lv_at hl 1 rfl) ?_
  refine lv_aload_n (pc := 289) hx hb dL_law_289 rfl (lv_at hl 0 rfl) ?_
  refine lv_iload (pc := 290) hx hb dL_law_290 (lv_at hl 4 rfl) ?_
  refine lv_iconst (pc := 292) (v := 1) hx hb dL_law_292 (by decide) ?_
  refine lv_iadd (pc := 293) hx hb dL_law_293 ?_
  refine va_sld (pc := 294) hx hb hX hbl hbA h.2.2.2 hin1 dL_law_294 ?_
  refine lv_aload_n (pc := 295) hx hb dL_law_295 rfl (lv_at hl 0 rfl) ?_
  refine lv_iload (pc := 296) hx hb dL_law_296 (lv_at hl 4 rfl) ?_
  refine lv_iconst (pc := 298) (v := 2) hx hb dL_law_298 (by decide) ?_
  refine lv_iadd (pc := 299) hx hb dL_law_299 ?_
  refine va_sld (pc := 300) hx hb hX hbl hbA h.2.2.2 hin2 dL_law_300 ?_
  have k_301 : ∀ X9 : W p l e room_1 s m #[Value.ref b] below meth c H locs (94 + t) (31332 + 6 * t) (lw_Z below #[Value.ref b] s) (F0 m 309 ls [.int bb, .int (xs (x4 + 1).toNatClampNeg), .ref (V.2.2 0)]), W p l e room_1 s m #[Value.ref b] below meth c H locs (94 + t) (31332 + 6 * t) (lw_Z below #[Value.ref b] s) (F0 m 301 ls (.int (xs (x4 + 2).toNatClampNeg) :: [.int (xs (x4 + 1).toNatClampNeg), .ref (V.2.2 0)])) := fun X9 => by
    refine lv_if_eq (pc := 301) (tgt := 308) hx hb dL_law_301 (by decide) (fun q => ?_) (fun q => ?_)
    · refine lv_iconst (pc := 308) (v := 0) hx hb dL_law_308 (by decide) ?_
      have e9 := hbe.1 q
      rw [e9] at X9
      exact X9
    · refine lv_iconst (pc := 304) (v := 1) hx hb dL_law_304 (by decide) ?_
      refine lv_goto (pc := 305) (tgt := 309) hx hb dL_law_305 (by decide) ?_
      have e9 := hbe.2 q
      rw [e9] at X9
      exact X9
  refine k_301 ?_
  refine lw_callCI (pc := 309) (As := [.int (xs (x4 + 1).toNatClampNeg), .int bb]) (rest := []) K h (mX10_on hc) cw_L_37 rfl rfl (Nat.le_of_ble_eq_true rfl) hl.1 hcs dL_law_309 (fun H locs h => ?_)
  refine lv_aload_n (pc := 312) hx hb dL_law_312 rfl (lv_at hl 2 rfl) ?_
  refine lv_aload_n (pc := 313) hx hb dL_law_313 rfl (lv_at hl 0 rfl) ?_
  refine lv_iload (pc := 314) hx hb dL_law_314 (lv_at hl 4 rfl) ?_
  refine lv_iconst (pc := 316) (v := 1) hx hb dL_law_316 (by decide) ?_
  refine lv_iadd (pc := 317) hx hb dL_law_317 ?_
  refine va_sld (pc := 318) hx hb hX hbl hbA h.2.2.2 hin1 dL_law_318 ?_
  refine lv_aload_n (pc := 319) hx hb dL_law_319 rfl (lv_at hl 0 rfl) ?_
  refine lv_iload (pc := 320) hx hb dL_law_320 (lv_at hl 4 rfl) ?_
  refine lv_iconst (pc := 322) (v := 2) hx hb dL_law_322 (by decide) ?_
  refine lv_iadd (pc := 323) hx hb dL_law_323 ?_
  refine va_sld (pc := 324) hx hb hX hbl hbA h.2.2.2 hin2 dL_law_324 ?_
  have k_325 : ∀ X9 : W p l e room_1 s m #[Value.ref b] below meth c H locs (94 + t) (31332 + 6 * t) (lw_Z below #[Value.ref b] s) (F0 m 333 ls [.int bb, .int (xs (x4 + 1).toNatClampNeg), .ref (V2.2.2 0), .int r]), W p l e room_1 s m #[Value.ref b] below meth c H locs (94 + t) (31332 + 6 * t) (lw_Z below #[Value.ref b] s) (F0 m 325 ls (.int (xs (x4 + 2).toNatClampNeg) :: [.int (xs (x4 + 1).toNatClampNeg), .ref (V2.2.2 0), .int r])) := fun X9 => by
    refine lv_if_eq (pc := 325) (tgt := 332) hx hb dL_law_325 (by decide) (fun q => ?_) (fun q => ?_)
    · refine lv_iconst (pc := 332) (v := 0) hx hb dL_law_332 (by decide) ?_
      have e9 := hbe.1 q
      rw [e9] at X9
      exact X9
    · refine lv_iconst (pc := 328) (v := 1) hx hb dL_law_328 (by decide) ?_
      refine lv_goto (pc := 329) (tgt := 333) hx hb dL_law_329 (by decide) ?_
      have e9 := hbe.2 q
      rw [e9] at X9
      exact X9
  refine k_325 ?_
  refine lw_callMI (pc := 333) (As := [.int (xs (x4 + 1).toNatClampNeg), .int bb]) (rest := [.int r]) K h (mX11_on hm) cw_L_41 rfl rfl (Nat.le_of_ble_eq_true rfl) hl.1 hcs dL_law_333 (fun H locs h => ?_)
  refine lv_icmp_eq (pc := 336) (tgt := 920) hx hb dL_law_336 (by decide) (fun _ => ?_) (fun q => absurd rfl q)
  exact next wc2 wm2 o hI _ _ _ h hl
set_option maxHeartbeats 4000000 in
theorem lawc_step {V V2 : Ev} {bo sa : Nat} {p : Program} {l : Launch} {e : Env} {s : State} {m : MethodId} {b L N t : Nat} {xs : Nat → Int32} {below : List Frame} {meth : Method} {c : Code} {I : Nat → Wd → Wd → Prop} (ht6 : t < 600) (htr : l.stackTraces = false) (hops : OpsOK N 2000 I) (K : LwC V V2 bo sa p s m b L xs meth c) (hcs1 : 94 + t + 1 ≤ 603072 ∧ 31332 + 6 * t + 6 ≤ 7194730) {x4 : Int32} (hin1 : vp_in (x4 + 1) L) (hin2 : vp_in (x4 + 2) L) (hin3 : vp_in (x4 + 3) L) (hin4 : vp_in (x4 + 4) L)
    (next : ∀ (wc wm : Wd) (o : Nat → Int64), I (t + 1) wc wm → ∀ (H : Heap) (locs : List Loc) (ls : Array Slot), LwS V V2 bo s wc wm o H locs → lv_has ls 7 [(0, .ref b), (1, .ref (V.2.2 0)), (2, .ref (V2.2.2 0)), (3, .ref bo), (4, .int x4)] → W p l e room_1 s m #[Value.ref b] below meth c H locs (94 + t) (31332 + 6 * t) (lw_Z below #[Value.ref b] s) (F0 m 920 ls []))
    (next1 : ∀ (wc wm : Wd) (o : Nat → Int64), I (t + 1) wc wm → ∀ (H : Heap) (locs : List Loc) (ls : Array Slot), LwS V V2 bo s wc wm o H locs → lv_has ls 7 [(0, .ref b), (1, .ref (V.2.2 0)), (2, .ref (V2.2.2 0)), (3, .ref bo), (4, .int x4)] → W p l e room_1 s m #[Value.ref b] below meth c H locs (94 + t + 1) (31332 + 6 * t + 6) (lw_Z below #[Value.ref b] s) (F0 m 920 ls []))
    {wc wm : Wd} {o : Nat → Int64} {H : Heap} {locs : List Loc} {ls : Array Slot} (hI : I t wc wm) (h : LwS V V2 bo s wc wm o H locs) (hl : lv_has ls 7 [(0, .ref b), (1, .ref (V.2.2 0)), (2, .ref (V2.2.2 0)), (3, .ref bo), (4, .int x4)]) : W p l e room_1 s m #[Value.ref b] below meth c H locs (94 + t) (31332 + 6 * t) (lw_Z below #[Value.ref b] s) (F0 m 341 ls []) := by
  obtain ⟨hx, hb, hml, hown, hg, hrt, hlk, hKX⟩ := id K.1
  have hX := K.2.2.2.2.2.2.2.2.2.2.2.2.2.2.1
  have hbl := K.2.2.2.2.2.2.2.2.2.2.2.2.2.2.2
  have hbA : ¬ (fun q : Nat => s.heap.size ≤ q) b := Nat.not_le.mpr hbl
  have hcs : 94 + t ≤ 603072 ∧ 31332 + 6 * t ≤ 7194730 := ⟨by omega, by omega⟩
  obtain ⟨wc2, wm2, r, hc, hm, hI⟩ := hops.2.2.2.2.2.2.1 t wc wm (xs (x4 + 1).toNatClampNeg) (xs (x4 + 2).toNatClampNeg) ht6 hI
  refine lv_aload_n (pc := 341) hx hb dL_law_341 rfl (lv_at hl 1 rfl) ?_
  refine lv_aload_n (pc := 342) hx hb dL_law_342 rfl (lv_at hl 0 rfl) ?_
  refine lv_iload (pc := 343) hx hb dL_law_343 (lv_at hl 4 rfl) ?_
  refine lv_iconst (pc := 345) (v := 1) hx hb dL_law_345 (by decide) ?_
  refine lv_iadd (pc := 346) hx hb dL_law_346 ?_
  refine va_sld (pc := 347) hx hb hX hbl hbA h.2.2.2 hin1 dL_law_347 ?_
  refine lv_aload_n (pc := 348) hx hb dL_law_348 rfl (lv_at hl 0 rfl) ?_
  refine lv_iload (pc := 349) hx hb dL_law_349 (lv_at hl 4 rfl) ?_
  refine lv_iconst (pc := 351) (v := 2) hx hb dL_law_351 (by decide) ?_
  refine lv_iadd (pc := 352) hx hb dL_law_352 ?_
  refine va_sld (pc := 353) hx hb hX hbl hbA h.2.2.2 hin2 dL_law_353 ?_
  refine lw_callCI (pc := 354) (As := [.int (xs (x4 + 1).toNatClampNeg), .int (xs (x4 + 2).toNatClampNeg)]) (rest := []) K h (mX10_step hc) cw_L_42 rfl rfl (Nat.le_of_ble_eq_true rfl) hl.1 hcs dL_law_354 (fun H locs h => ?_)
  refine lv_aload_n (pc := 357) hx hb dL_law_357 rfl (lv_at hl 2 rfl) ?_
  refine lv_aload_n (pc := 358) hx hb dL_law_358 rfl (lv_at hl 0 rfl) ?_
  refine lv_iload (pc := 359) hx hb dL_law_359 (lv_at hl 4 rfl) ?_
  refine lv_iconst (pc := 361) (v := 1) hx hb dL_law_361 (by decide) ?_
  refine lv_iadd (pc := 362) hx hb dL_law_362 ?_
  refine va_sld (pc := 363) hx hb hX hbl hbA h.2.2.2 hin1 dL_law_363 ?_
  refine lv_aload_n (pc := 364) hx hb dL_law_364 rfl (lv_at hl 0 rfl) ?_
  refine lv_iload (pc := 365) hx hb dL_law_365 (lv_at hl 4 rfl) ?_
  refine lv_iconst (pc := 367) (v := 2) hx hb dL_law_367 (by decide) ?_
  refine lv_iadd (pc := 368) hx hb dL_law_368 ?_
  refine va_sld (pc := 369) hx hb hX hbl hbA h.2.2.2 hin2 dL_law_369 ?_
  refine lw_callMI (pc := 370) (As := [.int (xs (x4 + 1).toNatClampNeg), .int (xs (x4 + 2).toNatClampNeg)]) (rest := [.int r]) K h (mX11_step hm) cw_L_45 rfl rfl (Nat.le_of_ble_eq_true rfl) hl.1 hcs dL_law_370 (fun H locs h => ?_)
  refine lv_icmp_eq (pc := 373) (tgt := 920) hx hb dL_law_373 (by decide) (fun _ => ?_) (fun q => absurd rfl q)
  exact next wc2 wm2 o hI _ _ _ h hl
set_option maxHeartbeats 4000000 in
theorem lawc_normal {V V2 : Ev} {bo sa : Nat} {p : Program} {l : Launch} {e : Env} {s : State} {m : MethodId} {b L N t : Nat} {xs : Nat → Int32} {below : List Frame} {meth : Method} {c : Code} {I : Nat → Wd → Wd → Prop} (ht6 : t < 600) (htr : l.stackTraces = false) (hops : OpsOK N 2000 I) (K : LwC V V2 bo sa p s m b L xs meth c) (hcs1 : 94 + t + 1 ≤ 603072 ∧ 31332 + 6 * t + 6 ≤ 7194730) {x4 : Int32} (hin1 : vp_in (x4 + 1) L) (hin2 : vp_in (x4 + 2) L) (hin3 : vp_in (x4 + 3) L) (hin4 : vp_in (x4 + 4) L)
    (next : ∀ (wc wm : Wd) (o : Nat → Int64), I (t + 1) wc wm → ∀ (H : Heap) (locs : List Loc) (ls : Array Slot), LwS V V2 bo s wc wm o H locs → lv_has ls 7 [(0, .ref b), (1, .ref (V.2.2 0)), (2, .ref (V2.2.2 0)), (3, .ref bo), (4, .int x4)] → W p l e room_1 s m #[Value.ref b] below meth c H locs (94 + t) (31332 + 6 * t) (lw_Z below #[Value.ref b] s) (F0 m 920 ls []))
    (next1 : ∀ (wc wm : Wd) (o : Nat → Int64), I (t + 1) wc wm → ∀ (H : Heap) (locs : List Loc) (ls : Array Slot), LwS V V2 bo s wc wm o H locs → lv_has ls 7 [(0, .ref b), (1, .ref (V.2.2 0)), (2, .ref (V2.2.2 0)), (3, .ref bo), (4, .int x4)] → W p l e room_1 s m #[Value.ref b] below meth c H locs (94 + t + 1) (31332 + 6 * t + 6) (lw_Z below #[Value.ref b] s) (F0 m 920 ls []))
    {wc wm : Wd} {o : Nat → Int64} {H : Heap} {locs : List Loc} {ls : Array Slot} (hI : I t wc wm) (h : LwS V V2 bo s wc wm o H locs) (hl : lv_has ls 7 [(0, .ref b), (1, .ref (V.2.2 0)), (2, .ref (V2.2.2 0)), (3, .ref bo), (4, .int x4)]) : W p l e room_1 s m #[Value.ref b] below meth c H locs (94 + t) (31332 + 6 * t) (lw_Z below #[Value.ref b] s) (F0 m 378 ls []) := by
  obtain ⟨hx, hb, hml, hown, hg, hrt, hlk, hKX⟩ := id K.1
  have hX := K.2.2.2.2.2.2.2.2.2.2.2.2.2.2.1
  have hbl := K.2.2.2.2.2.2.2.2.2.2.2.2.2.2.2
  have hbA : ¬ (fun q : Nat => s.heap.size ≤ q) b := Nat.not_le.mpr hbl
  have hcs : 94 + t ≤ 603072 ∧ 31332 + 6 * t ≤ 7194730 := ⟨by omega, by omega⟩
  obtain ⟨wc2, wm2, r, hc, hm, hI⟩ := hops.2.2.2.2.2.2.2.1 t wc wm (xs (x4 + 1).toNatClampNeg) (xs (x4 + 2).toNatClampNeg) ht6 hI
  refine lv_aload_n (pc := 378) hx hb dL_law_378 rfl (lv_at hl 1 rfl) ?_
  refine lv_aload_n (pc := 379) hx hb dL_law_379 rfl (lv_at hl 0 rfl) ?_
  refine lv_iload (pc := 380) hx hb dL_law_380 (lv_at hl 4 rfl) ?_
  refine lv_iconst (pc := 382) (v := 1) hx hb dL_law_382 (by decide) ?_
  refine lv_iadd (pc := 383) hx hb dL_law_383 ?_
  refine va_sld (pc := 384) hx hb hX hbl hbA h.2.2.2 hin1 dL_law_384 ?_
  refine lv_aload_n (pc := 385) hx hb dL_law_385 rfl (lv_at hl 0 rfl) ?_
  refine lv_iload (pc := 386) hx hb dL_law_386 (lv_at hl 4 rfl) ?_
  refine lv_iconst (pc := 388) (v := 2) hx hb dL_law_388 (by decide) ?_
  refine lv_iadd (pc := 389) hx hb dL_law_389 ?_
  refine va_sld (pc := 390) hx hb hX hbl hbA h.2.2.2 hin2 dL_law_390 ?_
  refine lw_callCI (pc := 391) (As := [.int (xs (x4 + 1).toNatClampNeg), .int (xs (x4 + 2).toNatClampNeg)]) (rest := []) K h (mX10_normal hc) cw_L_46 rfl rfl (Nat.le_of_ble_eq_true rfl) hl.1 hcs dL_law_391 (fun H locs h => ?_)
  refine lv_aload_n (pc := 394) hx hb dL_law_394 rfl (lv_at hl 2 rfl) ?_
  refine lv_aload_n (pc := 395) hx hb dL_law_395 rfl (lv_at hl 0 rfl) ?_
  refine lv_iload (pc := 396) hx hb dL_law_396 (lv_at hl 4 rfl) ?_
  refine lv_iconst (pc := 398) (v := 1) hx hb dL_law_398 (by decide) ?_
  refine lv_iadd (pc := 399) hx hb dL_law_399 ?_
  refine va_sld (pc := 400) hx hb hX hbl hbA h.2.2.2 hin1 dL_law_400 ?_
  refine lv_aload_n (pc := 401) hx hb dL_law_401 rfl (lv_at hl 0 rfl) ?_
  refine lv_iload (pc := 402) hx hb dL_law_402 (lv_at hl 4 rfl) ?_
  refine lv_iconst (pc := 404) (v := 2) hx hb dL_law_404 (by decide) ?_
  refine lv_iadd (pc := 405) hx hb dL_law_405 ?_
  refine va_sld (pc := 406) hx hb hX hbl hbA h.2.2.2 hin2 dL_law_406 ?_
  refine lw_callMI (pc := 407) (As := [.int (xs (x4 + 1).toNatClampNeg), .int (xs (x4 + 2).toNatClampNeg)]) (rest := [.int r]) K h (mX11_normal hm) cw_L_49 rfl rfl (Nat.le_of_ble_eq_true rfl) hl.1 hcs dL_law_407 (fun H locs h => ?_)
  refine lv_icmp_eq (pc := 410) (tgt := 920) hx hb dL_law_410 (by decide) (fun _ => ?_) (fun q => absurd rfl q)
  exact next wc2 wm2 o hI _ _ _ h hl
set_option maxHeartbeats 4000000 in
theorem lawc_used {V V2 : Ev} {bo sa : Nat} {p : Program} {l : Launch} {e : Env} {s : State} {m : MethodId} {b L N t : Nat} {xs : Nat → Int32} {below : List Frame} {meth : Method} {c : Code} {I : Nat → Wd → Wd → Prop} (ht6 : t < 600) (htr : l.stackTraces = false) (hops : OpsOK N 2000 I) (K : LwC V V2 bo sa p s m b L xs meth c) (hcs1 : 94 + t + 1 ≤ 603072 ∧ 31332 + 6 * t + 6 ≤ 7194730) {x4 : Int32} (hin1 : vp_in (x4 + 1) L) (hin2 : vp_in (x4 + 2) L) (hin3 : vp_in (x4 + 3) L) (hin4 : vp_in (x4 + 4) L)
    (next : ∀ (wc wm : Wd) (o : Nat → Int64), I (t + 1) wc wm → ∀ (H : Heap) (locs : List Loc) (ls : Array Slot), LwS V V2 bo s wc wm o H locs → lv_has ls 7 [(0, .ref b), (1, .ref (V.2.2 0)), (2, .ref (V2.2.2 0)), (3, .ref bo), (4, .int x4)] → W p l e room_1 s m #[Value.ref b] below meth c H locs (94 + t) (31332 + 6 * t) (lw_Z below #[Value.ref b] s) (F0 m 920 ls []))
    (next1 : ∀ (wc wm : Wd) (o : Nat → Int64), I (t + 1) wc wm → ∀ (H : Heap) (locs : List Loc) (ls : Array Slot), LwS V V2 bo s wc wm o H locs → lv_has ls 7 [(0, .ref b), (1, .ref (V.2.2 0)), (2, .ref (V2.2.2 0)), (3, .ref bo), (4, .int x4)] → W p l e room_1 s m #[Value.ref b] below meth c H locs (94 + t + 1) (31332 + 6 * t + 6) (lw_Z below #[Value.ref b] s) (F0 m 920 ls []))
    {wc wm : Wd} {o : Nat → Int64} {H : Heap} {locs : List Loc} {ls : Array Slot} (hI : I t wc wm) (h : LwS V V2 bo s wc wm o H locs) (hl : lv_has ls 7 [(0, .ref b), (1, .ref (V.2.2 0)), (2, .ref (V2.2.2 0)), (3, .ref bo), (4, .int x4)]) : W p l e room_1 s m #[Value.ref b] below meth c H locs (94 + t) (31332 + 6 * t) (lw_Z below #[Value.ref b] s) (F0 m 415 ls []) := by
  obtain ⟨hx, hb, hml, hown, hg, hrt, hlk, hKX⟩ := id K.1
  have hX := K.2.2.2.2.2.2.2.2.2.2.2.2.2.2.1
  have hbl := K.2.2.2.2.2.2.2.2.2.2.2.2.2.2.2
  have hbA : ¬ (fun q : Nat => s.heap.size ≤ q) b := Nat.not_le.mpr hbl
  have hcs : 94 + t ≤ 603072 ∧ 31332 + 6 * t ≤ 7194730 := ⟨by omega, by omega⟩
  obtain ⟨wc2, wm2, r, hc, hm, hI⟩ := hops.2.2.2.2.2.2.2.2.1 t wc wm (xs (x4 + 1).toNatClampNeg) (xs (x4 + 2).toNatClampNeg) ht6 hI
  refine lv_aload_n (pc := 415) hx hb dL_law_415 rfl (lv_at hl 1 rfl) ?_
  refine lv_aload_n (pc := 416) hx hb dL_law_416 rfl (lv_at hl 0 rfl) ?_
  refine lv_iload (pc := 417) hx hb dL_law_417 (lv_at hl 4 rfl) ?_
  refine lv_iconst (pc := 419) (v := 1) hx hb dL_law_419 (by decide) ?_
  refine lv_iadd (pc := 420) hx hb dL_law_420 ?_
  refine va_sld (pc := 421) hx hb hX hbl hbA h.2.2.2 hin1 dL_law_421 ?_
  refine lv_aload_n (pc := 422) hx hb dL_law_422 rfl (lv_at hl 0 rfl) ?_
  refine lv_iload (pc := 423) hx hb dL_law_423 (lv_at hl 4 rfl) ?_
  refine lv_iconst (pc := 425) (v := 2) hx hb dL_law_425 (by decide) ?_
  refine lv_iadd (pc := 426) hx hb dL_law_426 ?_
  refine va_sld (pc := 427) hx hb hX hbl hbA h.2.2.2 hin2 dL_law_427 ?_
  refine lw_callCL (pc := 428) (As := [.int (xs (x4 + 1).toNatClampNeg), .int (xs (x4 + 2).toNatClampNeg)]) (rest := []) K h (mX10_used hc) cw_L_50 rfl rfl (Nat.le_of_ble_eq_true rfl) hl.1 hcs dL_law_428 (fun H locs h => ?_)
  refine lv_aload_n (pc := 431) hx hb dL_law_431 rfl (lv_at hl 2 rfl) ?_
  refine lv_aload_n (pc := 432) hx hb dL_law_432 rfl (lv_at hl 0 rfl) ?_
  refine lv_iload (pc := 433) hx hb dL_law_433 (lv_at hl 4 rfl) ?_
  refine lv_iconst (pc := 435) (v := 1) hx hb dL_law_435 (by decide) ?_
  refine lv_iadd (pc := 436) hx hb dL_law_436 ?_
  refine va_sld (pc := 437) hx hb hX hbl hbA h.2.2.2 hin1 dL_law_437 ?_
  refine lv_aload_n (pc := 438) hx hb dL_law_438 rfl (lv_at hl 0 rfl) ?_
  refine lv_iload (pc := 439) hx hb dL_law_439 (lv_at hl 4 rfl) ?_
  refine lv_iconst (pc := 441) (v := 2) hx hb dL_law_441 (by decide) ?_
  refine lv_iadd (pc := 442) hx hb dL_law_442 ?_
  refine va_sld (pc := 443) hx hb hX hbl hbA h.2.2.2 hin2 dL_law_443 ?_
  refine lw_callML (pc := 444) (As := [.int (xs (x4 + 1).toNatClampNeg), .int (xs (x4 + 2).toNatClampNeg)]) (rest := [.long r]) K h (mX11_used hm) cw_L_54 rfl rfl (Nat.le_of_ble_eq_true rfl) hl.1 hcs dL_law_444 (fun H locs h => ?_)
  refine W.lcmp (pc := 447) hx hb dL_law_447 ?_
  refine lv_if_eq (pc := 448) (tgt := 920) hx hb dL_law_448 (by decide) (fun _ => ?_) (fun q => absurd (by simp [lg_cmp]) q)
  exact next wc2 wm2 o hI _ _ _ h hl
set_option maxHeartbeats 4000000 in
theorem lawc_ends {V V2 : Ev} {bo sa : Nat} {p : Program} {l : Launch} {e : Env} {s : State} {m : MethodId} {b L N t : Nat} {xs : Nat → Int32} {below : List Frame} {meth : Method} {c : Code} {I : Nat → Wd → Wd → Prop} (ht6 : t < 600) (htr : l.stackTraces = false) (hops : OpsOK N 2000 I) (K : LwC V V2 bo sa p s m b L xs meth c) (hcs1 : 94 + t + 1 ≤ 603072 ∧ 31332 + 6 * t + 6 ≤ 7194730) {x4 : Int32} (hin1 : vp_in (x4 + 1) L) (hin2 : vp_in (x4 + 2) L) (hin3 : vp_in (x4 + 3) L) (hin4 : vp_in (x4 + 4) L)
    (next : ∀ (wc wm : Wd) (o : Nat → Int64), I (t + 1) wc wm → ∀ (H : Heap) (locs : List Loc) (ls : Array Slot), LwS V V2 bo s wc wm o H locs → lv_has ls 7 [(0, .ref b), (1, .ref (V.2.2 0)), (2, .ref (V2.2.2 0)), (3, .ref bo), (4, .int x4)] → W p l e room_1 s m #[Value.ref b] below meth c H locs (94 + t) (31332 + 6 * t) (lw_Z below #[Value.ref b] s) (F0 m 920 ls []))
    (next1 : ∀ (wc wm : Wd) (o : Nat → Int64), I (t + 1) wc wm → ∀ (H : Heap) (locs : List Loc) (ls : Array Slot), LwS V V2 bo s wc wm o H locs → lv_has ls 7 [(0, .ref b), (1, .ref (V.2.2 0)), (2, .ref (V2.2.2 0)), (3, .ref bo), (4, .int x4)] → W p l e room_1 s m #[Value.ref b] below meth c H locs (94 + t + 1) (31332 + 6 * t + 6) (lw_Z below #[Value.ref b] s) (F0 m 920 ls []))
    {wc wm : Wd} {o : Nat → Int64} {H : Heap} {locs : List Loc} {ls : Array Slot} (hI : I t wc wm) (h : LwS V V2 bo s wc wm o H locs) (hl : lv_has ls 7 [(0, .ref b), (1, .ref (V.2.2 0)), (2, .ref (V2.2.2 0)), (3, .ref bo), (4, .int x4)]) : W p l e room_1 s m #[Value.ref b] below meth c H locs (94 + t) (31332 + 6 * t) (lw_Z below #[Value.ref b] s) (F0 m 453 ls []) := by
  obtain ⟨hx, hb, hml, hown, hg, hrt, hlk, hKX⟩ := id K.1
  have hX := K.2.2.2.2.2.2.2.2.2.2.2.2.2.2.1
  have hbl := K.2.2.2.2.2.2.2.2.2.2.2.2.2.2.2
  have hbA : ¬ (fun q : Nat => s.heap.size ≤ q) b := Nat.not_le.mpr hbl
  have hcs : 94 + t ≤ 603072 ∧ 31332 + 6 * t ≤ 7194730 := ⟨by omega, by omega⟩
  obtain ⟨wc2, wm2, r, hc, hm, hI⟩ := hops.2.2.2.2.2.2.2.2.2.1 t wc wm (xs (x4 + 1).toNatClampNeg) ht6 hI
  refine lv_aload_n (pc := 453) hx hb dL_law_453 rfl (lv_at hl 1 rfl) ?_
  refine lv_aload_n (pc := 454) hx hb dL_law_454 rfl (lv_at hl 0 rfl) ?_
  refine lv_iload (pc := 455) hx hb dL_law_455 (lv_at hl 4 rfl) ?_
  refine lv_iconst (pc := 457) (v := 1) hx hb dL_law_457 (by decide) ?_
  refine lv_iadd (pc := 458) hx hb dL_law_458 ?_
  refine va_sld (pc := 459) hx hb hX hbl hbA h.2.2.2 hin1 dL_law_459 ?_
  refine lw_callCI (pc := 460) (As := [.int (xs (x4 + 1).toNatClampNeg)]) (rest := []) K h (mX10_ends hc) cw_L_55 rfl rfl (Nat.le_of_ble_eq_true rfl) hl.1 hcs dL_law_460 (fun H locs h => ?_)
  refine lv_aload_n (pc := 463) hx hb dL_law_463 rfl (lv_at hl 2 rfl) ?_
  refine lv_aload_n (pc := 464) hx hb dL_law_464 rfl (lv_at hl 0 rfl) ?_
  refine lv_iload (pc := 465) hx hb dL_law_465 (lv_at hl 4 rfl) ?_
  refine lv_iconst (pc := 467) (v := 1) hx hb dL_law_467 (by decide) ?_
  refine lv_iadd (pc := 468) hx hb dL_law_468 ?_
  refine va_sld (pc := 469) hx hb hX hbl hbA h.2.2.2 hin1 dL_law_469 ?_
  refine lw_callMI (pc := 470) (As := [.int (xs (x4 + 1).toNatClampNeg)]) (rest := [.int r]) K h (mX11_ends hm) cw_L_58 rfl rfl (Nat.le_of_ble_eq_true rfl) hl.1 hcs dL_law_470 (fun H locs h => ?_)
  refine lv_icmp_eq (pc := 473) (tgt := 920) hx hb dL_law_473 (by decide) (fun _ => ?_) (fun q => absurd rfl q)
  exact next wc2 wm2 o hI _ _ _ h hl
set_option maxHeartbeats 4000000 in
theorem lawc_above {V V2 : Ev} {bo sa : Nat} {p : Program} {l : Launch} {e : Env} {s : State} {m : MethodId} {b L N t : Nat} {xs : Nat → Int32} {below : List Frame} {meth : Method} {c : Code} {I : Nat → Wd → Wd → Prop} (ht6 : t < 600) (htr : l.stackTraces = false) (hops : OpsOK N 2000 I) (K : LwC V V2 bo sa p s m b L xs meth c) (hcs1 : 94 + t + 1 ≤ 603072 ∧ 31332 + 6 * t + 6 ≤ 7194730) {x4 : Int32} (hin1 : vp_in (x4 + 1) L) (hin2 : vp_in (x4 + 2) L) (hin3 : vp_in (x4 + 3) L) (hin4 : vp_in (x4 + 4) L)
    (next : ∀ (wc wm : Wd) (o : Nat → Int64), I (t + 1) wc wm → ∀ (H : Heap) (locs : List Loc) (ls : Array Slot), LwS V V2 bo s wc wm o H locs → lv_has ls 7 [(0, .ref b), (1, .ref (V.2.2 0)), (2, .ref (V2.2.2 0)), (3, .ref bo), (4, .int x4)] → W p l e room_1 s m #[Value.ref b] below meth c H locs (94 + t) (31332 + 6 * t) (lw_Z below #[Value.ref b] s) (F0 m 920 ls []))
    (next1 : ∀ (wc wm : Wd) (o : Nat → Int64), I (t + 1) wc wm → ∀ (H : Heap) (locs : List Loc) (ls : Array Slot), LwS V V2 bo s wc wm o H locs → lv_has ls 7 [(0, .ref b), (1, .ref (V.2.2 0)), (2, .ref (V2.2.2 0)), (3, .ref bo), (4, .int x4)] → W p l e room_1 s m #[Value.ref b] below meth c H locs (94 + t + 1) (31332 + 6 * t + 6) (lw_Z below #[Value.ref b] s) (F0 m 920 ls []))
    {wc wm : Wd} {o : Nat → Int64} {H : Heap} {locs : List Loc} {ls : Array Slot} (hI : I t wc wm) (h : LwS V V2 bo s wc wm o H locs) (hl : lv_has ls 7 [(0, .ref b), (1, .ref (V.2.2 0)), (2, .ref (V2.2.2 0)), (3, .ref bo), (4, .int x4)]) : W p l e room_1 s m #[Value.ref b] below meth c H locs (94 + t) (31332 + 6 * t) (lw_Z below #[Value.ref b] s) (F0 m 478 ls []) := by
  obtain ⟨hx, hb, hml, hown, hg, hrt, hlk, hKX⟩ := id K.1
  have hX := K.2.2.2.2.2.2.2.2.2.2.2.2.2.2.1
  have hbl := K.2.2.2.2.2.2.2.2.2.2.2.2.2.2.2
  have hbA : ¬ (fun q : Nat => s.heap.size ≤ q) b := Nat.not_le.mpr hbl
  have hcs : 94 + t ≤ 603072 ∧ 31332 + 6 * t ≤ 7194730 := ⟨by omega, by omega⟩
  obtain ⟨wc2, wm2, r, hc, hm, hI⟩ := hops.2.2.2.2.2.2.2.2.2.2.1 t wc wm (xs (x4 + 1).toNatClampNeg) (xs (x4 + 2).toNatClampNeg) ht6 hI
  refine lv_aload_n (pc := 478) hx hb dL_law_478 rfl (lv_at hl 1 rfl) ?_
  refine lv_aload_n (pc := 479) hx hb dL_law_479 rfl (lv_at hl 0 rfl) ?_
  refine lv_iload (pc := 480) hx hb dL_law_480 (lv_at hl 4 rfl) ?_
  refine lv_iconst (pc := 482) (v := 1) hx hb dL_law_482 (by decide) ?_
  refine lv_iadd (pc := 483) hx hb dL_law_483 ?_
  refine va_sld (pc := 484) hx hb hX hbl hbA h.2.2.2 hin1 dL_law_484 ?_
  refine lv_aload_n (pc := 485) hx hb dL_law_485 rfl (lv_at hl 0 rfl) ?_
  refine lv_iload (pc := 486) hx hb dL_law_486 (lv_at hl 4 rfl) ?_
  refine lv_iconst (pc := 488) (v := 2) hx hb dL_law_488 (by decide) ?_
  refine lv_iadd (pc := 489) hx hb dL_law_489 ?_
  refine va_sld (pc := 490) hx hb hX hbl hbA h.2.2.2 hin2 dL_law_490 ?_
  refine lw_callCI (pc := 491) (As := [.int (xs (x4 + 1).toNatClampNeg), .int (xs (x4 + 2).toNatClampNeg)]) (rest := []) K h (mX10_above hc) cw_L_59 rfl rfl (Nat.le_of_ble_eq_true rfl) hl.1 hcs dL_law_491 (fun H locs h => ?_)
  refine lv_aload_n (pc := 494) hx hb dL_law_494 rfl (lv_at hl 2 rfl) ?_
  refine lv_aload_n (pc := 495) hx hb dL_law_495 rfl (lv_at hl 0 rfl) ?_
  refine lv_iload (pc := 496) hx hb dL_law_496 (lv_at hl 4 rfl) ?_
  refine lv_iconst (pc := 498) (v := 1) hx hb dL_law_498 (by decide) ?_
  refine lv_iadd (pc := 499) hx hb dL_law_499 ?_
  refine va_sld (pc := 500) hx hb hX hbl hbA h.2.2.2 hin1 dL_law_500 ?_
  refine lv_aload_n (pc := 501) hx hb dL_law_501 rfl (lv_at hl 0 rfl) ?_
  refine lv_iload (pc := 502) hx hb dL_law_502 (lv_at hl 4 rfl) ?_
  refine lv_iconst (pc := 504) (v := 2) hx hb dL_law_504 (by decide) ?_
  refine lv_iadd (pc := 505) hx hb dL_law_505 ?_
  refine va_sld (pc := 506) hx hb hX hbl hbA h.2.2.2 hin2 dL_law_506 ?_
  refine lw_callMI (pc := 507) (As := [.int (xs (x4 + 1).toNatClampNeg), .int (xs (x4 + 2).toNatClampNeg)]) (rest := [.int r]) K h (mX11_above hm) cw_L_62 rfl rfl (Nat.le_of_ble_eq_true rfl) hl.1 hcs dL_law_507 (fun H locs h => ?_)
  refine lv_icmp_eq (pc := 510) (tgt := 920) hx hb dL_law_510 (by decide) (fun _ => ?_) (fun q => absurd rfl q)
  exact next wc2 wm2 o hI _ _ _ h hl
set_option maxHeartbeats 4000000 in
theorem lawc_pairs {V V2 : Ev} {bo sa : Nat} {p : Program} {l : Launch} {e : Env} {s : State} {m : MethodId} {b L N t : Nat} {xs : Nat → Int32} {below : List Frame} {meth : Method} {c : Code} {I : Nat → Wd → Wd → Prop} (ht6 : t < 600) (htr : l.stackTraces = false) (hops : OpsOK N 2000 I) (K : LwC V V2 bo sa p s m b L xs meth c) (hcs1 : 94 + t + 1 ≤ 603072 ∧ 31332 + 6 * t + 6 ≤ 7194730) {x4 : Int32} (hin1 : vp_in (x4 + 1) L) (hin2 : vp_in (x4 + 2) L) (hin3 : vp_in (x4 + 3) L) (hin4 : vp_in (x4 + 4) L)
    (next : ∀ (wc wm : Wd) (o : Nat → Int64), I (t + 1) wc wm → ∀ (H : Heap) (locs : List Loc) (ls : Array Slot), LwS V V2 bo s wc wm o H locs → lv_has ls 7 [(0, .ref b), (1, .ref (V.2.2 0)), (2, .ref (V2.2.2 0)), (3, .ref bo), (4, .int x4)] → W p l e room_1 s m #[Value.ref b] below meth c H locs (94 + t) (31332 + 6 * t) (lw_Z below #[Value.ref b] s) (F0 m 920 ls []))
    (next1 : ∀ (wc wm : Wd) (o : Nat → Int64), I (t + 1) wc wm → ∀ (H : Heap) (locs : List Loc) (ls : Array Slot), LwS V V2 bo s wc wm o H locs → lv_has ls 7 [(0, .ref b), (1, .ref (V.2.2 0)), (2, .ref (V2.2.2 0)), (3, .ref bo), (4, .int x4)] → W p l e room_1 s m #[Value.ref b] below meth c H locs (94 + t + 1) (31332 + 6 * t + 6) (lw_Z below #[Value.ref b] s) (F0 m 920 ls []))
    {wc wm : Wd} {o : Nat → Int64} {H : Heap} {locs : List Loc} {ls : Array Slot} (hI : I t wc wm) (h : LwS V V2 bo s wc wm o H locs) (hl : lv_has ls 7 [(0, .ref b), (1, .ref (V.2.2 0)), (2, .ref (V2.2.2 0)), (3, .ref bo), (4, .int x4)]) : W p l e room_1 s m #[Value.ref b] below meth c H locs (94 + t) (31332 + 6 * t) (lw_Z below #[Value.ref b] s) (F0 m 515 ls []) := by
  obtain ⟨hx, hb, hml, hown, hg, hrt, hlk, hKX⟩ := id K.1
  have hX := K.2.2.2.2.2.2.2.2.2.2.2.2.2.2.1
  have hbl := K.2.2.2.2.2.2.2.2.2.2.2.2.2.2.2
  have hbA : ¬ (fun q : Nat => s.heap.size ≤ q) b := Nat.not_le.mpr hbl
  have hcs : 94 + t ≤ 603072 ∧ 31332 + 6 * t ≤ 7194730 := ⟨by omega, by omega⟩
  obtain ⟨wc2, wm2, r, hc, hm, hI⟩ := hops.2.2.2.2.2.2.2.2.2.2.2.1 t wc wm  ht6 hI
  refine lv_aload_n (pc := 515) hx hb dL_law_515 rfl (lv_at hl 1 rfl) ?_
  refine lw_callCI (pc := 516) (As := []) (rest := []) K h (mX10_pairs hc) cw_L_63 rfl rfl (Nat.le_of_ble_eq_true rfl) hl.1 hcs dL_law_516 (fun H locs h => ?_)
  refine lv_aload_n (pc := 519) hx hb dL_law_519 rfl (lv_at hl 2 rfl) ?_
  refine lw_callMI (pc := 520) (As := []) (rest := [.int r]) K h (mX11_pairs hm) cw_L_67 rfl rfl (Nat.le_of_ble_eq_true rfl) hl.1 hcs dL_law_520 (fun H locs h => ?_)
  refine lv_icmp_eq (pc := 523) (tgt := 920) hx hb dL_law_523 (by decide) (fun _ => ?_) (fun q => absurd rfl q)
  exact next wc2 wm2 o hI _ _ _ h hl
set_option maxHeartbeats 4000000 in
theorem lawc_pair {V V2 : Ev} {bo sa : Nat} {p : Program} {l : Launch} {e : Env} {s : State} {m : MethodId} {b L N t : Nat} {xs : Nat → Int32} {below : List Frame} {meth : Method} {c : Code} {I : Nat → Wd → Wd → Prop} (ht6 : t < 600) (htr : l.stackTraces = false) (hops : OpsOK N 2000 I) (K : LwC V V2 bo sa p s m b L xs meth c) (hcs1 : 94 + t + 1 ≤ 603072 ∧ 31332 + 6 * t + 6 ≤ 7194730) {x4 : Int32} (hin1 : vp_in (x4 + 1) L) (hin2 : vp_in (x4 + 2) L) (hin3 : vp_in (x4 + 3) L) (hin4 : vp_in (x4 + 4) L)
    (next : ∀ (wc wm : Wd) (o : Nat → Int64), I (t + 1) wc wm → ∀ (H : Heap) (locs : List Loc) (ls : Array Slot), LwS V V2 bo s wc wm o H locs → lv_has ls 7 [(0, .ref b), (1, .ref (V.2.2 0)), (2, .ref (V2.2.2 0)), (3, .ref bo), (4, .int x4)] → W p l e room_1 s m #[Value.ref b] below meth c H locs (94 + t) (31332 + 6 * t) (lw_Z below #[Value.ref b] s) (F0 m 920 ls []))
    (next1 : ∀ (wc wm : Wd) (o : Nat → Int64), I (t + 1) wc wm → ∀ (H : Heap) (locs : List Loc) (ls : Array Slot), LwS V V2 bo s wc wm o H locs → lv_has ls 7 [(0, .ref b), (1, .ref (V.2.2 0)), (2, .ref (V2.2.2 0)), (3, .ref bo), (4, .int x4)] → W p l e room_1 s m #[Value.ref b] below meth c H locs (94 + t + 1) (31332 + 6 * t + 6) (lw_Z below #[Value.ref b] s) (F0 m 920 ls []))
    {wc wm : Wd} {o : Nat → Int64} {H : Heap} {locs : List Loc} {ls : Array Slot} (hI : I t wc wm) (h : LwS V V2 bo s wc wm o H locs) (hl : lv_has ls 7 [(0, .ref b), (1, .ref (V.2.2 0)), (2, .ref (V2.2.2 0)), (3, .ref bo), (4, .int x4)]) : W p l e room_1 s m #[Value.ref b] below meth c H locs (94 + t) (31332 + 6 * t) (lw_Z below #[Value.ref b] s) (F0 m 528 ls []) := by
  obtain ⟨hx, hb, hml, hown, hg, hrt, hlk, hKX⟩ := id K.1
  have hX := K.2.2.2.2.2.2.2.2.2.2.2.2.2.2.1
  have hbl := K.2.2.2.2.2.2.2.2.2.2.2.2.2.2.2
  have hbA : ¬ (fun q : Nat => s.heap.size ≤ q) b := Nat.not_le.mpr hbl
  have hcs : 94 + t ≤ 603072 ∧ 31332 + 6 * t ≤ 7194730 := ⟨by omega, by omega⟩
  obtain ⟨wc2, wm2, r, hc, hm, hI⟩ := hops.2.2.2.2.2.2.2.2.2.2.2.2.1 t wc wm (xs (x4 + 1).toNatClampNeg) (xs (x4 + 2).toNatClampNeg) ht6 hI
  refine lv_aload_n (pc := 528) hx hb dL_law_528 rfl (lv_at hl 1 rfl) ?_
  refine lv_aload_n (pc := 529) hx hb dL_law_529 rfl (lv_at hl 0 rfl) ?_
  refine lv_iload (pc := 530) hx hb dL_law_530 (lv_at hl 4 rfl) ?_
  refine lv_iconst (pc := 532) (v := 1) hx hb dL_law_532 (by decide) ?_
  refine lv_iadd (pc := 533) hx hb dL_law_533 ?_
  refine va_sld (pc := 534) hx hb hX hbl hbA h.2.2.2 hin1 dL_law_534 ?_
  refine lv_aload_n (pc := 535) hx hb dL_law_535 rfl (lv_at hl 0 rfl) ?_
  refine lv_iload (pc := 536) hx hb dL_law_536 (lv_at hl 4 rfl) ?_
  refine lv_iconst (pc := 538) (v := 2) hx hb dL_law_538 (by decide) ?_
  refine lv_iadd (pc := 539) hx hb dL_law_539 ?_
  refine va_sld (pc := 540) hx hb hX hbl hbA h.2.2.2 hin2 dL_law_540 ?_
  refine lw_callCL (pc := 541) (As := [.int (xs (x4 + 1).toNatClampNeg), .int (xs (x4 + 2).toNatClampNeg)]) (rest := []) K h (mX10_pair hc) cw_L_68 rfl rfl (Nat.le_of_ble_eq_true rfl) hl.1 hcs dL_law_541 (fun H locs h => ?_)
  refine lv_aload_n (pc := 544) hx hb dL_law_544 rfl (lv_at hl 2 rfl) ?_
  refine lv_aload_n (pc := 545) hx hb dL_law_545 rfl (lv_at hl 0 rfl) ?_
  refine lv_iload (pc := 546) hx hb dL_law_546 (lv_at hl 4 rfl) ?_
  refine lv_iconst (pc := 548) (v := 1) hx hb dL_law_548 (by decide) ?_
  refine lv_iadd (pc := 549) hx hb dL_law_549 ?_
  refine va_sld (pc := 550) hx hb hX hbl hbA h.2.2.2 hin1 dL_law_550 ?_
  refine lv_aload_n (pc := 551) hx hb dL_law_551 rfl (lv_at hl 0 rfl) ?_
  refine lv_iload (pc := 552) hx hb dL_law_552 (lv_at hl 4 rfl) ?_
  refine lv_iconst (pc := 554) (v := 2) hx hb dL_law_554 (by decide) ?_
  refine lv_iadd (pc := 555) hx hb dL_law_555 ?_
  refine va_sld (pc := 556) hx hb hX hbl hbA h.2.2.2 hin2 dL_law_556 ?_
  refine lw_callML (pc := 557) (As := [.int (xs (x4 + 1).toNatClampNeg), .int (xs (x4 + 2).toNatClampNeg)]) (rest := [.long r]) K h (mX11_pair hm) cw_L_71 rfl rfl (Nat.le_of_ble_eq_true rfl) hl.1 hcs dL_law_557 (fun H locs h => ?_)
  refine W.lcmp (pc := 560) hx hb dL_law_560 ?_
  refine lv_if_eq (pc := 561) (tgt := 920) hx hb dL_law_561 (by decide) (fun _ => ?_) (fun q => absurd (by simp [lg_cmp]) q)
  exact next wc2 wm2 o hI _ _ _ h hl
set_option maxHeartbeats 4000000 in
theorem lawc_tables {V V2 : Ev} {bo sa : Nat} {p : Program} {l : Launch} {e : Env} {s : State} {m : MethodId} {b L N t : Nat} {xs : Nat → Int32} {below : List Frame} {meth : Method} {c : Code} {I : Nat → Wd → Wd → Prop} (ht6 : t < 600) (htr : l.stackTraces = false) (hops : OpsOK N 2000 I) (K : LwC V V2 bo sa p s m b L xs meth c) (hcs1 : 94 + t + 1 ≤ 603072 ∧ 31332 + 6 * t + 6 ≤ 7194730) {x4 : Int32} (hin1 : vp_in (x4 + 1) L) (hin2 : vp_in (x4 + 2) L) (hin3 : vp_in (x4 + 3) L) (hin4 : vp_in (x4 + 4) L)
    (next : ∀ (wc wm : Wd) (o : Nat → Int64), I (t + 1) wc wm → ∀ (H : Heap) (locs : List Loc) (ls : Array Slot), LwS V V2 bo s wc wm o H locs → lv_has ls 7 [(0, .ref b), (1, .ref (V.2.2 0)), (2, .ref (V2.2.2 0)), (3, .ref bo), (4, .int x4)] → W p l e room_1 s m #[Value.ref b] below meth c H locs (94 + t) (31332 + 6 * t) (lw_Z below #[Value.ref b] s) (F0 m 920 ls []))
    (next1 : ∀ (wc wm : Wd) (o : Nat → Int64), I (t + 1) wc wm → ∀ (H : Heap) (locs : List Loc) (ls : Array Slot), LwS V V2 bo s wc wm o H locs → lv_has ls 7 [(0, .ref b), (1, .ref (V.2.2 0)), (2, .ref (V2.2.2 0)), (3, .ref bo), (4, .int x4)] → W p l e room_1 s m #[Value.ref b] below meth c H locs (94 + t + 1) (31332 + 6 * t + 6) (lw_Z below #[Value.ref b] s) (F0 m 920 ls []))
    {wc wm : Wd} {o : Nat → Int64} {H : Heap} {locs : List Loc} {ls : Array Slot} (hI : I t wc wm) (h : LwS V V2 bo s wc wm o H locs) (hl : lv_has ls 7 [(0, .ref b), (1, .ref (V.2.2 0)), (2, .ref (V2.2.2 0)), (3, .ref bo), (4, .int x4)]) : W p l e room_1 s m #[Value.ref b] below meth c H locs (94 + t) (31332 + 6 * t) (lw_Z below #[Value.ref b] s) (F0 m 566 ls []) := by
  obtain ⟨hx, hb, hml, hown, hg, hrt, hlk, hKX⟩ := id K.1
  have hX := K.2.2.2.2.2.2.2.2.2.2.2.2.2.2.1
  have hbl := K.2.2.2.2.2.2.2.2.2.2.2.2.2.2.2
  have hbA : ¬ (fun q : Nat => s.heap.size ≤ q) b := Nat.not_le.mpr hbl
  have hcs : 94 + t ≤ 603072 ∧ 31332 + 6 * t ≤ 7194730 := ⟨by omega, by omega⟩
  obtain ⟨wc2, wm2, r, hc, hm, hI⟩ := hops.2.2.2.2.2.2.2.2.2.2.2.2.2.1 t wc wm (xs (x4 + 1).toNatClampNeg) ht6 hI
  refine lv_aload_n (pc := 566) hx hb dL_law_566 rfl (lv_at hl 1 rfl) ?_
  refine lv_aload_n (pc := 567) hx hb dL_law_567 rfl (lv_at hl 0 rfl) ?_
  refine lv_iload (pc := 568) hx hb dL_law_568 (lv_at hl 4 rfl) ?_
  refine lv_iconst (pc := 570) (v := 1) hx hb dL_law_570 (by decide) ?_
  refine lv_iadd (pc := 571) hx hb dL_law_571 ?_
  refine va_sld (pc := 572) hx hb hX hbl hbA h.2.2.2 hin1 dL_law_572 ?_
  refine lw_callCI (pc := 573) (As := [.int (xs (x4 + 1).toNatClampNeg)]) (rest := []) K h (mX10_tables hc) cw_L_72 rfl rfl (Nat.le_of_ble_eq_true rfl) hl.1 hcs dL_law_573 (fun H locs h => ?_)
  refine lv_aload_n (pc := 576) hx hb dL_law_576 rfl (lv_at hl 2 rfl) ?_
  refine lv_aload_n (pc := 577) hx hb dL_law_577 rfl (lv_at hl 0 rfl) ?_
  refine lv_iload (pc := 578) hx hb dL_law_578 (lv_at hl 4 rfl) ?_
  refine lv_iconst (pc := 580) (v := 1) hx hb dL_law_580 (by decide) ?_
  refine lv_iadd (pc := 581) hx hb dL_law_581 ?_
  refine va_sld (pc := 582) hx hb hX hbl hbA h.2.2.2 hin1 dL_law_582 ?_
  refine lw_callMI (pc := 583) (As := [.int (xs (x4 + 1).toNatClampNeg)]) (rest := [.int r]) K h (mX11_tables hm) cw_L_75 rfl rfl (Nat.le_of_ble_eq_true rfl) hl.1 hcs dL_law_583 (fun H locs h => ?_)
  refine lv_icmp_eq (pc := 586) (tgt := 920) hx hb dL_law_586 (by decide) (fun _ => ?_) (fun q => absurd rfl q)
  exact next wc2 wm2 o hI _ _ _ h hl
set_option maxHeartbeats 4000000 in
theorem lawc_cell {V V2 : Ev} {bo sa : Nat} {p : Program} {l : Launch} {e : Env} {s : State} {m : MethodId} {b L N t : Nat} {xs : Nat → Int32} {below : List Frame} {meth : Method} {c : Code} {I : Nat → Wd → Wd → Prop} (ht6 : t < 600) (htr : l.stackTraces = false) (hops : OpsOK N 2000 I) (K : LwC V V2 bo sa p s m b L xs meth c) (hcs1 : 94 + t + 1 ≤ 603072 ∧ 31332 + 6 * t + 6 ≤ 7194730) {x4 : Int32} (hin1 : vp_in (x4 + 1) L) (hin2 : vp_in (x4 + 2) L) (hin3 : vp_in (x4 + 3) L) (hin4 : vp_in (x4 + 4) L)
    (next : ∀ (wc wm : Wd) (o : Nat → Int64), I (t + 1) wc wm → ∀ (H : Heap) (locs : List Loc) (ls : Array Slot), LwS V V2 bo s wc wm o H locs → lv_has ls 7 [(0, .ref b), (1, .ref (V.2.2 0)), (2, .ref (V2.2.2 0)), (3, .ref bo), (4, .int x4)] → W p l e room_1 s m #[Value.ref b] below meth c H locs (94 + t) (31332 + 6 * t) (lw_Z below #[Value.ref b] s) (F0 m 920 ls []))
    (next1 : ∀ (wc wm : Wd) (o : Nat → Int64), I (t + 1) wc wm → ∀ (H : Heap) (locs : List Loc) (ls : Array Slot), LwS V V2 bo s wc wm o H locs → lv_has ls 7 [(0, .ref b), (1, .ref (V.2.2 0)), (2, .ref (V2.2.2 0)), (3, .ref bo), (4, .int x4)] → W p l e room_1 s m #[Value.ref b] below meth c H locs (94 + t + 1) (31332 + 6 * t + 6) (lw_Z below #[Value.ref b] s) (F0 m 920 ls []))
    {wc wm : Wd} {o : Nat → Int64} {H : Heap} {locs : List Loc} {ls : Array Slot} (hI : I t wc wm) (h : LwS V V2 bo s wc wm o H locs) (hl : lv_has ls 7 [(0, .ref b), (1, .ref (V.2.2 0)), (2, .ref (V2.2.2 0)), (3, .ref bo), (4, .int x4)]) : W p l e room_1 s m #[Value.ref b] below meth c H locs (94 + t) (31332 + 6 * t) (lw_Z below #[Value.ref b] s) (F0 m 591 ls []) := by
  obtain ⟨hx, hb, hml, hown, hg, hrt, hlk, hKX⟩ := id K.1
  have hX := K.2.2.2.2.2.2.2.2.2.2.2.2.2.2.1
  have hbl := K.2.2.2.2.2.2.2.2.2.2.2.2.2.2.2
  have hbA : ¬ (fun q : Nat => s.heap.size ≤ q) b := Nat.not_le.mpr hbl
  have hcs : 94 + t ≤ 603072 ∧ 31332 + 6 * t ≤ 7194730 := ⟨by omega, by omega⟩
  obtain ⟨wc2, wm2, r, hc, hm, hI⟩ := hops.2.2.2.2.2.2.2.2.2.2.2.2.2.2.1 t wc wm (xs (x4 + 1).toNatClampNeg) (xs (x4 + 2).toNatClampNeg) (xs (x4 + 3).toNatClampNeg) (xs (x4 + 4).toNatClampNeg) ht6 hI
  refine lv_aload_n (pc := 591) hx hb dL_law_591 rfl (lv_at hl 1 rfl) ?_
  refine lv_aload_n (pc := 592) hx hb dL_law_592 rfl (lv_at hl 0 rfl) ?_
  refine lv_iload (pc := 593) hx hb dL_law_593 (lv_at hl 4 rfl) ?_
  refine lv_iconst (pc := 595) (v := 1) hx hb dL_law_595 (by decide) ?_
  refine lv_iadd (pc := 596) hx hb dL_law_596 ?_
  refine va_sld (pc := 597) hx hb hX hbl hbA h.2.2.2 hin1 dL_law_597 ?_
  refine lv_aload_n (pc := 598) hx hb dL_law_598 rfl (lv_at hl 0 rfl) ?_
  refine lv_iload (pc := 599) hx hb dL_law_599 (lv_at hl 4 rfl) ?_
  refine lv_iconst (pc := 601) (v := 2) hx hb dL_law_601 (by decide) ?_
  refine lv_iadd (pc := 602) hx hb dL_law_602 ?_
  refine va_sld (pc := 603) hx hb hX hbl hbA h.2.2.2 hin2 dL_law_603 ?_
  refine lv_aload_n (pc := 604) hx hb dL_law_604 rfl (lv_at hl 0 rfl) ?_
  refine lv_iload (pc := 605) hx hb dL_law_605 (lv_at hl 4 rfl) ?_
  refine lv_iconst (pc := 607) (v := 3) hx hb dL_law_607 (by decide) ?_
  refine lv_iadd (pc := 608) hx hb dL_law_608 ?_
  refine va_sld (pc := 609) hx hb hX hbl hbA h.2.2.2 hin3 dL_law_609 ?_
  refine lv_aload_n (pc := 610) hx hb dL_law_610 rfl (lv_at hl 0 rfl) ?_
  refine lv_iload (pc := 611) hx hb dL_law_611 (lv_at hl 4 rfl) ?_
  refine lv_iconst (pc := 613) (v := 4) hx hb dL_law_613 (by decide) ?_
  refine lv_iadd (pc := 614) hx hb dL_law_614 ?_
  refine va_sld (pc := 615) hx hb hX hbl hbA h.2.2.2 hin4 dL_law_615 ?_
  refine lw_callCI (pc := 616) (As := [.int (xs (x4 + 1).toNatClampNeg), .int (xs (x4 + 2).toNatClampNeg), .int (xs (x4 + 3).toNatClampNeg), .int (xs (x4 + 4).toNatClampNeg)]) (rest := []) K h (mX10_cell hc) cw_L_76 rfl rfl (Nat.le_of_ble_eq_true rfl) hl.1 hcs dL_law_616 (fun H locs h => ?_)
  refine lv_aload_n (pc := 619) hx hb dL_law_619 rfl (lv_at hl 2 rfl) ?_
  refine lv_aload_n (pc := 620) hx hb dL_law_620 rfl (lv_at hl 0 rfl) ?_
  refine lv_iload (pc := 621) hx hb dL_law_621 (lv_at hl 4 rfl) ?_
  refine lv_iconst (pc := 623) (v := 1) hx hb dL_law_623 (by decide) ?_
  refine lv_iadd (pc := 624) hx hb dL_law_624 ?_
  refine va_sld (pc := 625) hx hb hX hbl hbA h.2.2.2 hin1 dL_law_625 ?_
  refine lv_aload_n (pc := 626) hx hb dL_law_626 rfl (lv_at hl 0 rfl) ?_
  refine lv_iload (pc := 627) hx hb dL_law_627 (lv_at hl 4 rfl) ?_
  refine lv_iconst (pc := 629) (v := 2) hx hb dL_law_629 (by decide) ?_
  refine lv_iadd (pc := 630) hx hb dL_law_630 ?_
  refine va_sld (pc := 631) hx hb hX hbl hbA h.2.2.2 hin2 dL_law_631 ?_
  refine lv_aload_n (pc := 632) hx hb dL_law_632 rfl (lv_at hl 0 rfl) ?_
  refine lv_iload (pc := 633) hx hb dL_law_633 (lv_at hl 4 rfl) ?_
  refine lv_iconst (pc := 635) (v := 3) hx hb dL_law_635 (by decide) ?_
  refine lv_iadd (pc := 636) hx hb dL_law_636 ?_
  refine va_sld (pc := 637) hx hb hX hbl hbA h.2.2.2 hin3 dL_law_637 ?_
  refine lv_aload_n (pc := 638) hx hb dL_law_638 rfl (lv_at hl 0 rfl) ?_
  refine lv_iload (pc := 639) hx hb dL_law_639 (lv_at hl 4 rfl) ?_
  refine lv_iconst (pc := 641) (v := 4) hx hb dL_law_641 (by decide) ?_
  refine lv_iadd (pc := 642) hx hb dL_law_642 ?_
  refine va_sld (pc := 643) hx hb hX hbl hbA h.2.2.2 hin4 dL_law_643 ?_
  refine lw_callMI (pc := 644) (As := [.int (xs (x4 + 1).toNatClampNeg), .int (xs (x4 + 2).toNatClampNeg), .int (xs (x4 + 3).toNatClampNeg), .int (xs (x4 + 4).toNatClampNeg)]) (rest := [.int r]) K h (mX11_cell hm) cw_L_80 rfl rfl (Nat.le_of_ble_eq_true rfl) hl.1 hcs dL_law_644 (fun H locs h => ?_)
  refine lv_icmp_eq (pc := 647) (tgt := 920) hx hb dL_law_647 (by decide) (fun _ => ?_) (fun q => absurd rfl q)
  exact next wc2 wm2 o hI _ _ _ h hl
set_option maxHeartbeats 4000000 in
theorem lawc_has {V V2 : Ev} {bo sa : Nat} {p : Program} {l : Launch} {e : Env} {s : State} {m : MethodId} {b L N t : Nat} {xs : Nat → Int32} {below : List Frame} {meth : Method} {c : Code} {I : Nat → Wd → Wd → Prop} (ht6 : t < 600) (htr : l.stackTraces = false) (hops : OpsOK N 2000 I) (K : LwC V V2 bo sa p s m b L xs meth c) (hcs1 : 94 + t + 1 ≤ 603072 ∧ 31332 + 6 * t + 6 ≤ 7194730) {x4 : Int32} (hin1 : vp_in (x4 + 1) L) (hin2 : vp_in (x4 + 2) L) (hin3 : vp_in (x4 + 3) L) (hin4 : vp_in (x4 + 4) L)
    (next : ∀ (wc wm : Wd) (o : Nat → Int64), I (t + 1) wc wm → ∀ (H : Heap) (locs : List Loc) (ls : Array Slot), LwS V V2 bo s wc wm o H locs → lv_has ls 7 [(0, .ref b), (1, .ref (V.2.2 0)), (2, .ref (V2.2.2 0)), (3, .ref bo), (4, .int x4)] → W p l e room_1 s m #[Value.ref b] below meth c H locs (94 + t) (31332 + 6 * t) (lw_Z below #[Value.ref b] s) (F0 m 920 ls []))
    (next1 : ∀ (wc wm : Wd) (o : Nat → Int64), I (t + 1) wc wm → ∀ (H : Heap) (locs : List Loc) (ls : Array Slot), LwS V V2 bo s wc wm o H locs → lv_has ls 7 [(0, .ref b), (1, .ref (V.2.2 0)), (2, .ref (V2.2.2 0)), (3, .ref bo), (4, .int x4)] → W p l e room_1 s m #[Value.ref b] below meth c H locs (94 + t + 1) (31332 + 6 * t + 6) (lw_Z below #[Value.ref b] s) (F0 m 920 ls []))
    {wc wm : Wd} {o : Nat → Int64} {H : Heap} {locs : List Loc} {ls : Array Slot} (hI : I t wc wm) (h : LwS V V2 bo s wc wm o H locs) (hl : lv_has ls 7 [(0, .ref b), (1, .ref (V.2.2 0)), (2, .ref (V2.2.2 0)), (3, .ref bo), (4, .int x4)]) : W p l e room_1 s m #[Value.ref b] below meth c H locs (94 + t) (31332 + 6 * t) (lw_Z below #[Value.ref b] s) (F0 m 652 ls []) := by
  obtain ⟨hx, hb, hml, hown, hg, hrt, hlk, hKX⟩ := id K.1
  have hX := K.2.2.2.2.2.2.2.2.2.2.2.2.2.2.1
  have hbl := K.2.2.2.2.2.2.2.2.2.2.2.2.2.2.2
  have hbA : ¬ (fun q : Nat => s.heap.size ≤ q) b := Nat.not_le.mpr hbl
  have hcs : 94 + t ≤ 603072 ∧ 31332 + 6 * t ≤ 7194730 := ⟨by omega, by omega⟩
  obtain ⟨wc2, wm2, r, hc, hm, hI⟩ := hops.2.2.2.2.2.2.2.2.2.2.2.2.2.2.2.1 t wc wm (xs (x4 + 1).toNatClampNeg) (xs (x4 + 2).toNatClampNeg) ht6 hI
  refine lv_aload_n (pc := 652) hx hb dL_law_652 rfl (lv_at hl 1 rfl) ?_
  refine lv_aload_n (pc := 653) hx hb dL_law_653 rfl (lv_at hl 0 rfl) ?_
  refine lv_iload (pc := 654) hx hb dL_law_654 (lv_at hl 4 rfl) ?_
  refine lv_iconst (pc := 656) (v := 1) hx hb dL_law_656 (by decide) ?_
  refine lv_iadd (pc := 657) hx hb dL_law_657 ?_
  refine va_sld (pc := 658) hx hb hX hbl hbA h.2.2.2 hin1 dL_law_658 ?_
  refine lv_aload_n (pc := 659) hx hb dL_law_659 rfl (lv_at hl 0 rfl) ?_
  refine lv_iload (pc := 660) hx hb dL_law_660 (lv_at hl 4 rfl) ?_
  refine lv_iconst (pc := 662) (v := 2) hx hb dL_law_662 (by decide) ?_
  refine lv_iadd (pc := 663) hx hb dL_law_663 ?_
  refine va_sld (pc := 664) hx hb hX hbl hbA h.2.2.2 hin2 dL_law_664 ?_
  refine lw_callCI (pc := 665) (As := [.int (xs (x4 + 1).toNatClampNeg), .int (xs (x4 + 2).toNatClampNeg)]) (rest := []) K h (mX10_has hc) cw_L_81 rfl rfl (Nat.le_of_ble_eq_true rfl) hl.1 hcs dL_law_665 (fun H locs h => ?_)
  refine lv_aload_n (pc := 668) hx hb dL_law_668 rfl (lv_at hl 2 rfl) ?_
  refine lv_aload_n (pc := 669) hx hb dL_law_669 rfl (lv_at hl 0 rfl) ?_
  refine lv_iload (pc := 670) hx hb dL_law_670 (lv_at hl 4 rfl) ?_
  refine lv_iconst (pc := 672) (v := 1) hx hb dL_law_672 (by decide) ?_
  refine lv_iadd (pc := 673) hx hb dL_law_673 ?_
  refine va_sld (pc := 674) hx hb hX hbl hbA h.2.2.2 hin1 dL_law_674 ?_
  refine lv_aload_n (pc := 675) hx hb dL_law_675 rfl (lv_at hl 0 rfl) ?_
  refine lv_iload (pc := 676) hx hb dL_law_676 (lv_at hl 4 rfl) ?_
  refine lv_iconst (pc := 678) (v := 2) hx hb dL_law_678 (by decide) ?_
  refine lv_iadd (pc := 679) hx hb dL_law_679 ?_
  refine va_sld (pc := 680) hx hb hX hbl hbA h.2.2.2 hin2 dL_law_680 ?_
  refine lw_callMI (pc := 681) (As := [.int (xs (x4 + 1).toNatClampNeg), .int (xs (x4 + 2).toNatClampNeg)]) (rest := [.int r]) K h (mX11_has hm) cw_L_84 rfl rfl (Nat.le_of_ble_eq_true rfl) hl.1 hcs dL_law_681 (fun H locs h => ?_)
  refine lv_icmp_eq (pc := 684) (tgt := 920) hx hb dL_law_684 (by decide) (fun _ => ?_) (fun q => absurd rfl q)
  exact next wc2 wm2 o hI _ _ _ h hl
set_option maxHeartbeats 4000000 in
theorem lawc_value {V V2 : Ev} {bo sa : Nat} {p : Program} {l : Launch} {e : Env} {s : State} {m : MethodId} {b L N t : Nat} {xs : Nat → Int32} {below : List Frame} {meth : Method} {c : Code} {I : Nat → Wd → Wd → Prop} (ht6 : t < 600) (htr : l.stackTraces = false) (hops : OpsOK N 2000 I) (K : LwC V V2 bo sa p s m b L xs meth c) (hcs1 : 94 + t + 1 ≤ 603072 ∧ 31332 + 6 * t + 6 ≤ 7194730) {x4 : Int32} (hin1 : vp_in (x4 + 1) L) (hin2 : vp_in (x4 + 2) L) (hin3 : vp_in (x4 + 3) L) (hin4 : vp_in (x4 + 4) L)
    (next : ∀ (wc wm : Wd) (o : Nat → Int64), I (t + 1) wc wm → ∀ (H : Heap) (locs : List Loc) (ls : Array Slot), LwS V V2 bo s wc wm o H locs → lv_has ls 7 [(0, .ref b), (1, .ref (V.2.2 0)), (2, .ref (V2.2.2 0)), (3, .ref bo), (4, .int x4)] → W p l e room_1 s m #[Value.ref b] below meth c H locs (94 + t) (31332 + 6 * t) (lw_Z below #[Value.ref b] s) (F0 m 920 ls []))
    (next1 : ∀ (wc wm : Wd) (o : Nat → Int64), I (t + 1) wc wm → ∀ (H : Heap) (locs : List Loc) (ls : Array Slot), LwS V V2 bo s wc wm o H locs → lv_has ls 7 [(0, .ref b), (1, .ref (V.2.2 0)), (2, .ref (V2.2.2 0)), (3, .ref bo), (4, .int x4)] → W p l e room_1 s m #[Value.ref b] below meth c H locs (94 + t + 1) (31332 + 6 * t + 6) (lw_Z below #[Value.ref b] s) (F0 m 920 ls []))
    {wc wm : Wd} {o : Nat → Int64} {H : Heap} {locs : List Loc} {ls : Array Slot} (hI : I t wc wm) (h : LwS V V2 bo s wc wm o H locs) (hl : lv_has ls 7 [(0, .ref b), (1, .ref (V.2.2 0)), (2, .ref (V2.2.2 0)), (3, .ref bo), (4, .int x4)]) : W p l e room_1 s m #[Value.ref b] below meth c H locs (94 + t) (31332 + 6 * t) (lw_Z below #[Value.ref b] s) (F0 m 689 ls []) := by
  obtain ⟨hx, hb, hml, hown, hg, hrt, hlk, hKX⟩ := id K.1
  have hX := K.2.2.2.2.2.2.2.2.2.2.2.2.2.2.1
  have hbl := K.2.2.2.2.2.2.2.2.2.2.2.2.2.2.2
  have hbA : ¬ (fun q : Nat => s.heap.size ≤ q) b := Nat.not_le.mpr hbl
  have hcs : 94 + t ≤ 603072 ∧ 31332 + 6 * t ≤ 7194730 := ⟨by omega, by omega⟩
  obtain ⟨wc2, wm2, r, hc, hm, hI⟩ := hops.2.2.2.2.2.2.2.2.2.2.2.2.2.2.2.2.1 t wc wm (xs (x4 + 1).toNatClampNeg) ht6 hI
  refine lv_aload_n (pc := 689) hx hb dL_law_689 rfl (lv_at hl 1 rfl) ?_
  refine lv_aload_n (pc := 690) hx hb dL_law_690 rfl (lv_at hl 0 rfl) ?_
  refine lv_iload (pc := 691) hx hb dL_law_691 (lv_at hl 4 rfl) ?_
  refine lv_iconst (pc := 693) (v := 1) hx hb dL_law_693 (by decide) ?_
  refine lv_iadd (pc := 694) hx hb dL_law_694 ?_
  refine va_sld (pc := 695) hx hb hX hbl hbA h.2.2.2 hin1 dL_law_695 ?_
  refine lw_callCI (pc := 696) (As := [.int (xs (x4 + 1).toNatClampNeg)]) (rest := []) K h (mX10_value hc) cw_L_85 rfl rfl (Nat.le_of_ble_eq_true rfl) hl.1 hcs dL_law_696 (fun H locs h => ?_)
  refine lv_aload_n (pc := 699) hx hb dL_law_699 rfl (lv_at hl 2 rfl) ?_
  refine lv_aload_n (pc := 700) hx hb dL_law_700 rfl (lv_at hl 0 rfl) ?_
  refine lv_iload (pc := 701) hx hb dL_law_701 (lv_at hl 4 rfl) ?_
  refine lv_iconst (pc := 703) (v := 1) hx hb dL_law_703 (by decide) ?_
  refine lv_iadd (pc := 704) hx hb dL_law_704 ?_
  refine va_sld (pc := 705) hx hb hX hbl hbA h.2.2.2 hin1 dL_law_705 ?_
  refine lw_callMI (pc := 706) (As := [.int (xs (x4 + 1).toNatClampNeg)]) (rest := [.int r]) K h (mX11_value hm) cw_L_88 rfl rfl (Nat.le_of_ble_eq_true rfl) hl.1 hcs dL_law_706 (fun H locs h => ?_)
  refine lv_icmp_eq (pc := 709) (tgt := 920) hx hb dL_law_709 (by decide) (fun _ => ?_) (fun q => absurd rfl q)
  exact next wc2 wm2 o hI _ _ _ h hl
set_option maxHeartbeats 4000000 in
theorem lawc_judge {V V2 : Ev} {bo sa : Nat} {p : Program} {l : Launch} {e : Env} {s : State} {m : MethodId} {b L N t : Nat} {xs : Nat → Int32} {below : List Frame} {meth : Method} {c : Code} {I : Nat → Wd → Wd → Prop} (ht6 : t < 600) (htr : l.stackTraces = false) (hops : OpsOK N 2000 I) (K : LwC V V2 bo sa p s m b L xs meth c) (hcs1 : 94 + t + 1 ≤ 603072 ∧ 31332 + 6 * t + 6 ≤ 7194730) {x4 : Int32} (hin1 : vp_in (x4 + 1) L) (hin2 : vp_in (x4 + 2) L) (hin3 : vp_in (x4 + 3) L) (hin4 : vp_in (x4 + 4) L)
    (next : ∀ (wc wm : Wd) (o : Nat → Int64), I (t + 1) wc wm → ∀ (H : Heap) (locs : List Loc) (ls : Array Slot), LwS V V2 bo s wc wm o H locs → lv_has ls 7 [(0, .ref b), (1, .ref (V.2.2 0)), (2, .ref (V2.2.2 0)), (3, .ref bo), (4, .int x4)] → W p l e room_1 s m #[Value.ref b] below meth c H locs (94 + t) (31332 + 6 * t) (lw_Z below #[Value.ref b] s) (F0 m 920 ls []))
    (next1 : ∀ (wc wm : Wd) (o : Nat → Int64), I (t + 1) wc wm → ∀ (H : Heap) (locs : List Loc) (ls : Array Slot), LwS V V2 bo s wc wm o H locs → lv_has ls 7 [(0, .ref b), (1, .ref (V.2.2 0)), (2, .ref (V2.2.2 0)), (3, .ref bo), (4, .int x4)] → W p l e room_1 s m #[Value.ref b] below meth c H locs (94 + t + 1) (31332 + 6 * t + 6) (lw_Z below #[Value.ref b] s) (F0 m 920 ls []))
    {wc wm : Wd} {o : Nat → Int64} {H : Heap} {locs : List Loc} {ls : Array Slot} (hI : I t wc wm) (h : LwS V V2 bo s wc wm o H locs) (hl : lv_has ls 7 [(0, .ref b), (1, .ref (V.2.2 0)), (2, .ref (V2.2.2 0)), (3, .ref bo), (4, .int x4)]) : W p l e room_1 s m #[Value.ref b] below meth c H locs (94 + t) (31332 + 6 * t) (lw_Z below #[Value.ref b] s) (F0 m 714 ls []) := by
  obtain ⟨hx, hb, hml, hown, hg, hrt, hlk, hKX⟩ := id K.1
  have hX := K.2.2.2.2.2.2.2.2.2.2.2.2.2.2.1
  have hbl := K.2.2.2.2.2.2.2.2.2.2.2.2.2.2.2
  have hbA : ¬ (fun q : Nat => s.heap.size ≤ q) b := Nat.not_le.mpr hbl
  have hcs : 94 + t ≤ 603072 ∧ 31332 + 6 * t ≤ 7194730 := ⟨by omega, by omega⟩
  obtain ⟨wc2, wm2, r, hc, hm, hI⟩ := hops.2.2.2.2.2.2.2.2.2.2.2.2.2.2.2.2.2.1 t wc wm (xs (x4 + 1).toNatClampNeg) ht6 hI
  refine lv_aload_n (pc := 714) hx hb dL_law_714 rfl (lv_at hl 1 rfl) ?_
  refine lv_aload_n (pc := 715) hx hb dL_law_715 rfl (lv_at hl 0 rfl) ?_
  refine lv_iload (pc := 716) hx hb dL_law_716 (lv_at hl 4 rfl) ?_
  refine lv_iconst (pc := 718) (v := 1) hx hb dL_law_718 (by decide) ?_
  refine lv_iadd (pc := 719) hx hb dL_law_719 ?_
  refine va_sld (pc := 720) hx hb hX hbl hbA h.2.2.2 hin1 dL_law_720 ?_
  refine lw_callCI (pc := 721) (As := [.int (xs (x4 + 1).toNatClampNeg)]) (rest := []) K h (mX10_judge hc) cw_L_89 rfl rfl (Nat.le_of_ble_eq_true rfl) hl.1 hcs dL_law_721 (fun H locs h => ?_)
  refine lv_aload_n (pc := 724) hx hb dL_law_724 rfl (lv_at hl 2 rfl) ?_
  refine lv_aload_n (pc := 725) hx hb dL_law_725 rfl (lv_at hl 0 rfl) ?_
  refine lv_iload (pc := 726) hx hb dL_law_726 (lv_at hl 4 rfl) ?_
  refine lv_iconst (pc := 728) (v := 1) hx hb dL_law_728 (by decide) ?_
  refine lv_iadd (pc := 729) hx hb dL_law_729 ?_
  refine va_sld (pc := 730) hx hb hX hbl hbA h.2.2.2 hin1 dL_law_730 ?_
  refine lw_callMI (pc := 731) (As := [.int (xs (x4 + 1).toNatClampNeg)]) (rest := [.int r]) K h (mX11_judge hm) cw_L_92 rfl rfl (Nat.le_of_ble_eq_true rfl) hl.1 hcs dL_law_731 (fun H locs h => ?_)
  refine lv_icmp_eq (pc := 734) (tgt := 920) hx hb dL_law_734 (by decide) (fun _ => ?_) (fun q => absurd rfl q)
  exact next wc2 wm2 o hI _ _ _ h hl
set_option maxHeartbeats 4000000 in
theorem lawc_refuted {V V2 : Ev} {bo sa : Nat} {p : Program} {l : Launch} {e : Env} {s : State} {m : MethodId} {b L N t : Nat} {xs : Nat → Int32} {below : List Frame} {meth : Method} {c : Code} {I : Nat → Wd → Wd → Prop} (ht6 : t < 600) (htr : l.stackTraces = false) (hops : OpsOK N 2000 I) (K : LwC V V2 bo sa p s m b L xs meth c) (hcs1 : 94 + t + 1 ≤ 603072 ∧ 31332 + 6 * t + 6 ≤ 7194730) {x4 : Int32} (hin1 : vp_in (x4 + 1) L) (hin2 : vp_in (x4 + 2) L) (hin3 : vp_in (x4 + 3) L) (hin4 : vp_in (x4 + 4) L)
    (next : ∀ (wc wm : Wd) (o : Nat → Int64), I (t + 1) wc wm → ∀ (H : Heap) (locs : List Loc) (ls : Array Slot), LwS V V2 bo s wc wm o H locs → lv_has ls 7 [(0, .ref b), (1, .ref (V.2.2 0)), (2, .ref (V2.2.2 0)), (3, .ref bo), (4, .int x4)] → W p l e room_1 s m #[Value.ref b] below meth c H locs (94 + t) (31332 + 6 * t) (lw_Z below #[Value.ref b] s) (F0 m 920 ls []))
    (next1 : ∀ (wc wm : Wd) (o : Nat → Int64), I (t + 1) wc wm → ∀ (H : Heap) (locs : List Loc) (ls : Array Slot), LwS V V2 bo s wc wm o H locs → lv_has ls 7 [(0, .ref b), (1, .ref (V.2.2 0)), (2, .ref (V2.2.2 0)), (3, .ref bo), (4, .int x4)] → W p l e room_1 s m #[Value.ref b] below meth c H locs (94 + t + 1) (31332 + 6 * t + 6) (lw_Z below #[Value.ref b] s) (F0 m 920 ls []))
    {wc wm : Wd} {o : Nat → Int64} {H : Heap} {locs : List Loc} {ls : Array Slot} (hI : I t wc wm) (h : LwS V V2 bo s wc wm o H locs) (hl : lv_has ls 7 [(0, .ref b), (1, .ref (V.2.2 0)), (2, .ref (V2.2.2 0)), (3, .ref bo), (4, .int x4)]) : W p l e room_1 s m #[Value.ref b] below meth c H locs (94 + t) (31332 + 6 * t) (lw_Z below #[Value.ref b] s) (F0 m 739 ls []) := by
  obtain ⟨hx, hb, hml, hown, hg, hrt, hlk, hKX⟩ := id K.1
  have hX := K.2.2.2.2.2.2.2.2.2.2.2.2.2.2.1
  have hbl := K.2.2.2.2.2.2.2.2.2.2.2.2.2.2.2
  have hbA : ¬ (fun q : Nat => s.heap.size ≤ q) b := Nat.not_le.mpr hbl
  have hcs : 94 + t ≤ 603072 ∧ 31332 + 6 * t ≤ 7194730 := ⟨by omega, by omega⟩
  obtain ⟨wc2, wm2, r, hc, hm, hI⟩ := hops.2.2.2.2.2.2.2.2.2.2.2.2.2.2.2.2.2.2.1 t wc wm (xs (x4 + 1).toNatClampNeg) ht6 hI
  refine lv_aload_n (pc := 739) hx hb dL_law_739 rfl (lv_at hl 1 rfl) ?_
  refine lv_aload_n (pc := 740) hx hb dL_law_740 rfl (lv_at hl 0 rfl) ?_
  refine lv_iload (pc := 741) hx hb dL_law_741 (lv_at hl 4 rfl) ?_
  refine lv_iconst (pc := 743) (v := 1) hx hb dL_law_743 (by decide) ?_
  refine lv_iadd (pc := 744) hx hb dL_law_744 ?_
  refine va_sld (pc := 745) hx hb hX hbl hbA h.2.2.2 hin1 dL_law_745 ?_
  refine lw_callCI (pc := 746) (As := [.int (xs (x4 + 1).toNatClampNeg)]) (rest := []) K h (mX10_refuted hc) cw_L_93 rfl rfl (Nat.le_of_ble_eq_true rfl) hl.1 hcs dL_law_746 (fun H locs h => ?_)
  refine lv_aload_n (pc := 749) hx hb dL_law_749 rfl (lv_at hl 2 rfl) ?_
  refine lv_aload_n (pc := 750) hx hb dL_law_750 rfl (lv_at hl 0 rfl) ?_
  refine lv_iload (pc := 751) hx hb dL_law_751 (lv_at hl 4 rfl) ?_
  refine lv_iconst (pc := 753) (v := 1) hx hb dL_law_753 (by decide) ?_
  refine lv_iadd (pc := 754) hx hb dL_law_754 ?_
  refine va_sld (pc := 755) hx hb hX hbl hbA h.2.2.2 hin1 dL_law_755 ?_
  refine lw_callMI (pc := 756) (As := [.int (xs (x4 + 1).toNatClampNeg)]) (rest := [.int r]) K h (mX11_refuted hm) cw_L_96 rfl rfl (Nat.le_of_ble_eq_true rfl) hl.1 hcs dL_law_756 (fun H locs h => ?_)
  refine lv_icmp_eq (pc := 759) (tgt := 920) hx hb dL_law_759 (by decide) (fun _ => ?_) (fun q => absurd rfl q)
  exact next wc2 wm2 o hI _ _ _ h hl
set_option maxHeartbeats 4000000 in
theorem lawc_of {V V2 : Ev} {bo sa : Nat} {p : Program} {l : Launch} {e : Env} {s : State} {m : MethodId} {b L N t : Nat} {xs : Nat → Int32} {below : List Frame} {meth : Method} {c : Code} {I : Nat → Wd → Wd → Prop} (ht6 : t < 600) (htr : l.stackTraces = false) (hops : OpsOK N 2000 I) (K : LwC V V2 bo sa p s m b L xs meth c) (hcs1 : 94 + t + 1 ≤ 603072 ∧ 31332 + 6 * t + 6 ≤ 7194730) {x4 : Int32} (hin1 : vp_in (x4 + 1) L) (hin2 : vp_in (x4 + 2) L) (hin3 : vp_in (x4 + 3) L) (hin4 : vp_in (x4 + 4) L)
    (next : ∀ (wc wm : Wd) (o : Nat → Int64), I (t + 1) wc wm → ∀ (H : Heap) (locs : List Loc) (ls : Array Slot), LwS V V2 bo s wc wm o H locs → lv_has ls 7 [(0, .ref b), (1, .ref (V.2.2 0)), (2, .ref (V2.2.2 0)), (3, .ref bo), (4, .int x4)] → W p l e room_1 s m #[Value.ref b] below meth c H locs (94 + t) (31332 + 6 * t) (lw_Z below #[Value.ref b] s) (F0 m 920 ls []))
    (next1 : ∀ (wc wm : Wd) (o : Nat → Int64), I (t + 1) wc wm → ∀ (H : Heap) (locs : List Loc) (ls : Array Slot), LwS V V2 bo s wc wm o H locs → lv_has ls 7 [(0, .ref b), (1, .ref (V.2.2 0)), (2, .ref (V2.2.2 0)), (3, .ref bo), (4, .int x4)] → W p l e room_1 s m #[Value.ref b] below meth c H locs (94 + t + 1) (31332 + 6 * t + 6) (lw_Z below #[Value.ref b] s) (F0 m 920 ls []))
    {wc wm : Wd} {o : Nat → Int64} {H : Heap} {locs : List Loc} {ls : Array Slot} (hI : I t wc wm) (h : LwS V V2 bo s wc wm o H locs) (hl : lv_has ls 7 [(0, .ref b), (1, .ref (V.2.2 0)), (2, .ref (V2.2.2 0)), (3, .ref bo), (4, .int x4)]) : W p l e room_1 s m #[Value.ref b] below meth c H locs (94 + t) (31332 + 6 * t) (lw_Z below #[Value.ref b] s) (F0 m 764 ls []) := by
  obtain ⟨hx, hb, hml, hown, hg, hrt, hlk, hKX⟩ := id K.1
  have hX := K.2.2.2.2.2.2.2.2.2.2.2.2.2.2.1
  have hbl := K.2.2.2.2.2.2.2.2.2.2.2.2.2.2.2
  have hbA : ¬ (fun q : Nat => s.heap.size ≤ q) b := Nat.not_le.mpr hbl
  have hcs : 94 + t ≤ 603072 ∧ 31332 + 6 * t ≤ 7194730 := ⟨by omega, by omega⟩
  obtain ⟨wc2, wm2, r, hc, hm, hI⟩ := hops.2.2.2.2.2.2.2.2.2.2.2.2.2.2.2.2.2.2.2.1 t wc wm (xs (x4 + 1).toNatClampNeg) (xs (x4 + 2).toNatClampNeg) (xs (x4 + 3).toNatClampNeg) ht6 hI
  refine lv_aload_n (pc := 764) hx hb dL_law_764 rfl (lv_at hl 1 rfl) ?_
  refine lv_aload_n (pc := 765) hx hb dL_law_765 rfl (lv_at hl 0 rfl) ?_
  refine lv_iload (pc := 766) hx hb dL_law_766 (lv_at hl 4 rfl) ?_
  refine lv_iconst (pc := 768) (v := 1) hx hb dL_law_768 (by decide) ?_
  refine lv_iadd (pc := 769) hx hb dL_law_769 ?_
  refine va_sld (pc := 770) hx hb hX hbl hbA h.2.2.2 hin1 dL_law_770 ?_
  refine lv_aload_n (pc := 771) hx hb dL_law_771 rfl (lv_at hl 0 rfl) ?_
  refine lv_iload (pc := 772) hx hb dL_law_772 (lv_at hl 4 rfl) ?_
  refine lv_iconst (pc := 774) (v := 2) hx hb dL_law_774 (by decide) ?_
  refine lv_iadd (pc := 775) hx hb dL_law_775 ?_
  refine va_sld (pc := 776) hx hb hX hbl hbA h.2.2.2 hin2 dL_law_776 ?_
  refine lv_aload_n (pc := 777) hx hb dL_law_777 rfl (lv_at hl 0 rfl) ?_
  refine lv_iload (pc := 778) hx hb dL_law_778 (lv_at hl 4 rfl) ?_
  refine lv_iconst (pc := 780) (v := 3) hx hb dL_law_780 (by decide) ?_
  refine lv_iadd (pc := 781) hx hb dL_law_781 ?_
  refine va_sld (pc := 782) hx hb hX hbl hbA h.2.2.2 hin3 dL_law_782 ?_
  refine lw_callCL (pc := 783) (As := [.int (xs (x4 + 1).toNatClampNeg), .int (xs (x4 + 2).toNatClampNeg), .int (xs (x4 + 3).toNatClampNeg)]) (rest := []) K h (mX10_of hc) cw_L_97 rfl rfl (Nat.le_of_ble_eq_true rfl) hl.1 hcs dL_law_783 (fun H locs h => ?_)
  refine lv_aload_n (pc := 786) hx hb dL_law_786 rfl (lv_at hl 2 rfl) ?_
  refine lv_aload_n (pc := 787) hx hb dL_law_787 rfl (lv_at hl 0 rfl) ?_
  refine lv_iload (pc := 788) hx hb dL_law_788 (lv_at hl 4 rfl) ?_
  refine lv_iconst (pc := 790) (v := 1) hx hb dL_law_790 (by decide) ?_
  refine lv_iadd (pc := 791) hx hb dL_law_791 ?_
  refine va_sld (pc := 792) hx hb hX hbl hbA h.2.2.2 hin1 dL_law_792 ?_
  refine lv_aload_n (pc := 793) hx hb dL_law_793 rfl (lv_at hl 0 rfl) ?_
  refine lv_iload (pc := 794) hx hb dL_law_794 (lv_at hl 4 rfl) ?_
  refine lv_iconst (pc := 796) (v := 2) hx hb dL_law_796 (by decide) ?_
  refine lv_iadd (pc := 797) hx hb dL_law_797 ?_
  refine va_sld (pc := 798) hx hb hX hbl hbA h.2.2.2 hin2 dL_law_798 ?_
  refine lv_aload_n (pc := 799) hx hb dL_law_799 rfl (lv_at hl 0 rfl) ?_
  refine lv_iload (pc := 800) hx hb dL_law_800 (lv_at hl 4 rfl) ?_
  refine lv_iconst (pc := 802) (v := 3) hx hb dL_law_802 (by decide) ?_
  refine lv_iadd (pc := 803) hx hb dL_law_803 ?_
  refine va_sld (pc := 804) hx hb hX hbl hbA h.2.2.2 hin3 dL_law_804 ?_
  refine lw_callML (pc := 805) (As := [.int (xs (x4 + 1).toNatClampNeg), .int (xs (x4 + 2).toNatClampNeg), .int (xs (x4 + 3).toNatClampNeg)]) (rest := [.long r]) K h (mX11_of hm) cw_L_101 rfl rfl (Nat.le_of_ble_eq_true rfl) hl.1 hcs dL_law_805 (fun H locs h => ?_)
  refine W.lcmp (pc := 808) hx hb dL_law_808 ?_
  refine lv_if_eq (pc := 809) (tgt := 920) hx hb dL_law_809 (by decide) (fun _ => ?_) (fun q => absurd (by simp [lg_cmp]) q)
  exact next wc2 wm2 o hI _ _ _ h hl
set_option maxHeartbeats 4000000 in
theorem lawc_part {V V2 : Ev} {bo sa : Nat} {p : Program} {l : Launch} {e : Env} {s : State} {m : MethodId} {b L N t : Nat} {xs : Nat → Int32} {below : List Frame} {meth : Method} {c : Code} {I : Nat → Wd → Wd → Prop} (ht6 : t < 600) (htr : l.stackTraces = false) (hops : OpsOK N 2000 I) (K : LwC V V2 bo sa p s m b L xs meth c) (hcs1 : 94 + t + 1 ≤ 603072 ∧ 31332 + 6 * t + 6 ≤ 7194730) {x4 : Int32} (hin1 : vp_in (x4 + 1) L) (hin2 : vp_in (x4 + 2) L) (hin3 : vp_in (x4 + 3) L) (hin4 : vp_in (x4 + 4) L)
    (next : ∀ (wc wm : Wd) (o : Nat → Int64), I (t + 1) wc wm → ∀ (H : Heap) (locs : List Loc) (ls : Array Slot), LwS V V2 bo s wc wm o H locs → lv_has ls 7 [(0, .ref b), (1, .ref (V.2.2 0)), (2, .ref (V2.2.2 0)), (3, .ref bo), (4, .int x4)] → W p l e room_1 s m #[Value.ref b] below meth c H locs (94 + t) (31332 + 6 * t) (lw_Z below #[Value.ref b] s) (F0 m 920 ls []))
    (next1 : ∀ (wc wm : Wd) (o : Nat → Int64), I (t + 1) wc wm → ∀ (H : Heap) (locs : List Loc) (ls : Array Slot), LwS V V2 bo s wc wm o H locs → lv_has ls 7 [(0, .ref b), (1, .ref (V.2.2 0)), (2, .ref (V2.2.2 0)), (3, .ref bo), (4, .int x4)] → W p l e room_1 s m #[Value.ref b] below meth c H locs (94 + t + 1) (31332 + 6 * t + 6) (lw_Z below #[Value.ref b] s) (F0 m 920 ls []))
    {wc wm : Wd} {o : Nat → Int64} {H : Heap} {locs : List Loc} {ls : Array Slot} (hI : I t wc wm) (h : LwS V V2 bo s wc wm o H locs) (hl : lv_has ls 7 [(0, .ref b), (1, .ref (V.2.2 0)), (2, .ref (V2.2.2 0)), (3, .ref bo), (4, .int x4)]) : W p l e room_1 s m #[Value.ref b] below meth c H locs (94 + t) (31332 + 6 * t) (lw_Z below #[Value.ref b] s) (F0 m 814 ls []) := by
  obtain ⟨hx, hb, hml, hown, hg, hrt, hlk, hKX⟩ := id K.1
  have hX := K.2.2.2.2.2.2.2.2.2.2.2.2.2.2.1
  have hbl := K.2.2.2.2.2.2.2.2.2.2.2.2.2.2.2
  have hbA : ¬ (fun q : Nat => s.heap.size ≤ q) b := Nat.not_le.mpr hbl
  have hcs : 94 + t ≤ 603072 ∧ 31332 + 6 * t ≤ 7194730 := ⟨by omega, by omega⟩
  obtain ⟨wc2, wm2, wm3, op, r, k, hc, hm, ht9, hor, hI⟩ := hops.2.2.2.2.2.2.2.2.2.2.2.2.2.2.2.2.2.2.2.2.1 t wc wm (xs (x4 + 1).toNatClampNeg) (xs (x4 + 2).toNatClampNeg) ht6 hI
  refine lv_aload_n (pc := 814) hx hb dL_law_814 rfl (lv_at hl 1 rfl) ?_
  refine lv_aload_n (pc := 815) hx hb dL_law_815 rfl (lv_at hl 0 rfl) ?_
  refine lv_iload (pc := 816) hx hb dL_law_816 (lv_at hl 4 rfl) ?_
  refine lv_iconst (pc := 818) (v := 1) hx hb dL_law_818 (by decide) ?_
  refine lv_iadd (pc := 819) hx hb dL_law_819 ?_
  refine va_sld (pc := 820) hx hb hX hbl hbA h.2.2.2 hin1 dL_law_820 ?_
  refine lv_aload_n (pc := 821) hx hb dL_law_821 rfl (lv_at hl 0 rfl) ?_
  refine lv_iload (pc := 822) hx hb dL_law_822 (lv_at hl 4 rfl) ?_
  refine lv_iconst (pc := 824) (v := 2) hx hb dL_law_824 (by decide) ?_
  refine lv_iadd (pc := 825) hx hb dL_law_825 ?_
  refine va_sld (pc := 826) hx hb hX hbl hbA h.2.2.2 hin2 dL_law_826 ?_
  refine lv_aload_n (pc := 827) hx hb dL_law_827 rfl (lv_at hl 3 rfl) ?_
  refine lw_partC (pc := 828) K htr h hc rfl (Nat.le_of_ble_eq_true rfl) hl.1 hcs1 dL_law_828 (fun H locs o1 k9 ho1 h => ?_)
  refine lv_istore (pc := 831) (lv' := [(5, .int k9), (0, .ref b), (1, .ref (V.2.2 0)), (2, .ref (V2.2.2 0)), (3, .ref bo), (4, .int x4)]) hx hb dL_law_831 hl (by decide) rfl (fun ls hl => ?_)
  refine lv_aload_n (pc := 833) hx hb dL_law_833 rfl (lv_at hl 3 rfl) ?_
  refine lv_aload_n (pc := 834) hx hb dL_law_834 rfl (lv_at hl 1 rfl) ?_
  refine lv_iload (pc := 835) hx hb dL_law_835 (lv_at hl 5 rfl) ?_
  refine lv_iconst (pc := 837) (v := 1) hx hb dL_law_837 (by decide) ?_
  refine lv_iadd (pc := 838) hx hb dL_law_838 ?_
  refine va_sld (pc := 839) hx hb hX hbl hbA h.2.2.2 hin1 dL_law_839 ?_
  refine lv_aload_n (pc := 840) hx hb dL_law_840 rfl (lv_at hl 1 rfl) ?_
  refine lv_iload (pc := 841) hx hb dL_law_841 (lv_at hl 5 rfl) ?_
  refine lv_iconst (pc := 843) (v := 2) hx hb dL_law_843 (by decide) ?_
  refine lv_iadd (pc := 844) hx hb dL_law_844 ?_
  refine va_sld (pc := 845) hx hb hX hbl hbA h.2.2.2 hin2 dL_law_845 ?_
  refine lw_callMI (pc := 846) (As := [.int (xs (x4 + 1).toNatClampNeg), .int (xs (x4 + 2).toNatClampNeg)]) (rest := []) K h (mX11_part hm) cw_L_107 rfl rfl (Nat.le_of_ble_eq_true rfl) hl.1 hcs1 dL_law_846 (fun H locs h => ?_)
  refine lv_istore (pc := 849) (lv' := [(6, .int r), (5, .int k9), (0, .ref b), (1, .ref (V.2.2 0)), (2, .ref (V2.2.2 0)), (3, .ref bo), (4, .int x4)]) hx hb dL_law_849 hl (by decide) rfl (fun ls hl => ?_)
  refine lv_aload_n (pc := 851) hx hb dL_law_851 rfl (lv_at hl 4 rfl) ?_
  refine lw_callMI (pc := 852) (As := []) (rest := []) K h (mX11_thrown ht9) cw_L_108 rfl rfl (Nat.le_of_ble_eq_true rfl) hl.1 hcs1 dL_law_852 (fun H locs h => ?_)
  refine lv_iload (pc := 855) hx hb dL_law_855 (lv_at hl 1 rfl) ?_
  have hkk : k = k9 := by
    rcases hor with ⟨e1, e2⟩ | ⟨e1, e2⟩ <;> rcases ho1 with ⟨r9, f1, f2, f3⟩ | ⟨f1, f2, f3⟩
    · rw [e2, f2]
    · rw [e1] at f1; cases f1
    · rw [e1] at f1; cases f1
    · rw [e2, f2]
  refine lv_icmp_eq (pc := 857) (tgt := 862) hx hb dL_law_857 (by decide) (fun _ => ?_) (fun q => absurd hkk q)
  refine lv_iload (pc := 862) hx hb dL_law_862 (lv_at hl 1 rfl) ?_
  refine lv_if_ne (pc := 864) (tgt := 879) hx hb dL_law_864 (by decide) (fun q => ?_) (fun q => ?_)
  · refine lv_goto (pc := 879) (tgt := 920) hx hb dL_law_879 (by decide) ?_
    exact next1 wc2 wm3 o1 hI _ _ _ h (lv_sub hl [2, 3, 4, 5, 6] rfl)
  · refine lv_aload_n (pc := 867) hx hb dL_law_867 rfl (lv_at hl 5 rfl) ?_
    refine lv_iconst (pc := 868) (v := 0) hx hb dL_law_868 (by decide) ?_
    refine va_lald (pc := 869) hx hb K.1.2.2.2.2.2.2.2.1 h.2.1 0 1 rfl rfl (i := 0) (by unfold vp_in; decide) dL_law_869 ?_
    refine lv_iload (pc := 870) hx hb dL_law_870 (lv_at hl 0 rfl) ?_
    refine lv_i2l (pc := 872) hx hb dL_law_872 rfl ?_
    refine W.lcmp (pc := 873) hx hb dL_law_873 ?_
    have heq : o1 (0 : Int32).toNatClampNeg = r.toInt64 := by
      rcases ho1 with ⟨r9, f1, f2, f3⟩ | ⟨f1, f2, f3⟩
      · rcases hor with ⟨e1, e2⟩ | ⟨e1, e2⟩
        · have e3 : r = r9 := Option.some.inj (e1.symm.trans f1)
          rw [f3, e3]
          rfl
        · rw [e1] at f1; cases f1
      · rw [f2] at q; exact absurd q (by decide)
    refine lv_if_eq (pc := 874) (tgt := 879) hx hb dL_law_874 (by decide) (fun _ => ?_) (fun q => absurd (by rw [heq]; simp [lg_cmp]) q)
    refine lv_goto (pc := 879) (tgt := 920) hx hb dL_law_879 (by decide) ?_
    exact next1 wc2 wm3 o1 hI _ _ _ h (lv_sub hl [2, 3, 4, 5, 6] rfl)
set_option maxHeartbeats 4000000 in
theorem lawc_count {V V2 : Ev} {bo sa : Nat} {p : Program} {l : Launch} {e : Env} {s : State} {m : MethodId} {b L N t : Nat} {xs : Nat → Int32} {below : List Frame} {meth : Method} {c : Code} {I : Nat → Wd → Wd → Prop} (ht6 : t < 600) (htr : l.stackTraces = false) (hops : OpsOK N 2000 I) (K : LwC V V2 bo sa p s m b L xs meth c) (hcs1 : 94 + t + 1 ≤ 603072 ∧ 31332 + 6 * t + 6 ≤ 7194730) {x4 : Int32} (hin1 : vp_in (x4 + 1) L) (hin2 : vp_in (x4 + 2) L) (hin3 : vp_in (x4 + 3) L) (hin4 : vp_in (x4 + 4) L)
    (next : ∀ (wc wm : Wd) (o : Nat → Int64), I (t + 1) wc wm → ∀ (H : Heap) (locs : List Loc) (ls : Array Slot), LwS V V2 bo s wc wm o H locs → lv_has ls 7 [(0, .ref b), (1, .ref (V.2.2 0)), (2, .ref (V2.2.2 0)), (3, .ref bo), (4, .int x4)] → W p l e room_1 s m #[Value.ref b] below meth c H locs (94 + t) (31332 + 6 * t) (lw_Z below #[Value.ref b] s) (F0 m 920 ls []))
    (next1 : ∀ (wc wm : Wd) (o : Nat → Int64), I (t + 1) wc wm → ∀ (H : Heap) (locs : List Loc) (ls : Array Slot), LwS V V2 bo s wc wm o H locs → lv_has ls 7 [(0, .ref b), (1, .ref (V.2.2 0)), (2, .ref (V2.2.2 0)), (3, .ref bo), (4, .int x4)] → W p l e room_1 s m #[Value.ref b] below meth c H locs (94 + t + 1) (31332 + 6 * t + 6) (lw_Z below #[Value.ref b] s) (F0 m 920 ls []))
    {wc wm : Wd} {o : Nat → Int64} {H : Heap} {locs : List Loc} {ls : Array Slot} (hI : I t wc wm) (h : LwS V V2 bo s wc wm o H locs) (hl : lv_has ls 7 [(0, .ref b), (1, .ref (V.2.2 0)), (2, .ref (V2.2.2 0)), (3, .ref bo), (4, .int x4)]) : W p l e room_1 s m #[Value.ref b] below meth c H locs (94 + t) (31332 + 6 * t) (lw_Z below #[Value.ref b] s) (F0 m 882 ls []) := by
  obtain ⟨hx, hb, hml, hown, hg, hrt, hlk, hKX⟩ := id K.1
  have hX := K.2.2.2.2.2.2.2.2.2.2.2.2.2.2.1
  have hbl := K.2.2.2.2.2.2.2.2.2.2.2.2.2.2.2
  have hbA : ¬ (fun q : Nat => s.heap.size ≤ q) b := Nat.not_le.mpr hbl
  have hcs : 94 + t ≤ 603072 ∧ 31332 + 6 * t ≤ 7194730 := ⟨by omega, by omega⟩
  obtain ⟨wc2, wm2, r, hc, hm, hI⟩ := hops.2.2.2.2.2.2.2.2.2.2.2.2.2.2.2.2.2.2.2.2.2.1 t wc wm (xs (x4 + 1).toNatClampNeg) ht6 hI
  refine lv_aload_n (pc := 882) hx hb dL_law_882 rfl (lv_at hl 1 rfl) ?_
  refine lv_aload_n (pc := 883) hx hb dL_law_883 rfl (lv_at hl 0 rfl) ?_
  refine lv_iload (pc := 884) hx hb dL_law_884 (lv_at hl 4 rfl) ?_
  refine lv_iconst (pc := 886) (v := 1) hx hb dL_law_886 (by decide) ?_
  refine lv_iadd (pc := 887) hx hb dL_law_887 ?_
  refine va_sld (pc := 888) hx hb hX hbl hbA h.2.2.2 hin1 dL_law_888 ?_
  refine lw_callCI (pc := 889) (As := [.int (xs (x4 + 1).toNatClampNeg)]) (rest := []) K h (mX10_count hc) cw_L_111 rfl rfl (Nat.le_of_ble_eq_true rfl) hl.1 hcs dL_law_889 (fun H locs h => ?_)
  refine lv_aload_n (pc := 892) hx hb dL_law_892 rfl (lv_at hl 2 rfl) ?_
  refine lv_aload_n (pc := 893) hx hb dL_law_893 rfl (lv_at hl 0 rfl) ?_
  refine lv_iload (pc := 894) hx hb dL_law_894 (lv_at hl 4 rfl) ?_
  refine lv_iconst (pc := 896) (v := 1) hx hb dL_law_896 (by decide) ?_
  refine lv_iadd (pc := 897) hx hb dL_law_897 ?_
  refine va_sld (pc := 898) hx hb hX hbl hbA h.2.2.2 hin1 dL_law_898 ?_
  refine lw_callMI (pc := 899) (As := [.int (xs (x4 + 1).toNatClampNeg)]) (rest := [.int r]) K h (mX11_count hm) cw_L_114 rfl rfl (Nat.le_of_ble_eq_true rfl) hl.1 hcs dL_law_899 (fun H locs h => ?_)
  refine lv_icmp_eq (pc := 902) (tgt := 920) hx hb dL_law_902 (by decide) (fun _ => ?_) (fun q => absurd rfl q)
  exact next wc2 wm2 o hI _ _ _ h hl
set_option maxHeartbeats 4000000 in
theorem lawc_clear {V V2 : Ev} {bo sa : Nat} {p : Program} {l : Launch} {e : Env} {s : State} {m : MethodId} {b L N t : Nat} {xs : Nat → Int32} {below : List Frame} {meth : Method} {c : Code} {I : Nat → Wd → Wd → Prop} (ht6 : t < 600) (htr : l.stackTraces = false) (hops : OpsOK N 2000 I) (K : LwC V V2 bo sa p s m b L xs meth c) (hcs1 : 94 + t + 1 ≤ 603072 ∧ 31332 + 6 * t + 6 ≤ 7194730) {x4 : Int32} (hin1 : vp_in (x4 + 1) L) (hin2 : vp_in (x4 + 2) L) (hin3 : vp_in (x4 + 3) L) (hin4 : vp_in (x4 + 4) L)
    (next : ∀ (wc wm : Wd) (o : Nat → Int64), I (t + 1) wc wm → ∀ (H : Heap) (locs : List Loc) (ls : Array Slot), LwS V V2 bo s wc wm o H locs → lv_has ls 7 [(0, .ref b), (1, .ref (V.2.2 0)), (2, .ref (V2.2.2 0)), (3, .ref bo), (4, .int x4)] → W p l e room_1 s m #[Value.ref b] below meth c H locs (94 + t) (31332 + 6 * t) (lw_Z below #[Value.ref b] s) (F0 m 920 ls []))
    (next1 : ∀ (wc wm : Wd) (o : Nat → Int64), I (t + 1) wc wm → ∀ (H : Heap) (locs : List Loc) (ls : Array Slot), LwS V V2 bo s wc wm o H locs → lv_has ls 7 [(0, .ref b), (1, .ref (V.2.2 0)), (2, .ref (V2.2.2 0)), (3, .ref bo), (4, .int x4)] → W p l e room_1 s m #[Value.ref b] below meth c H locs (94 + t + 1) (31332 + 6 * t + 6) (lw_Z below #[Value.ref b] s) (F0 m 920 ls []))
    {wc wm : Wd} {o : Nat → Int64} {H : Heap} {locs : List Loc} {ls : Array Slot} (hI : I t wc wm) (h : LwS V V2 bo s wc wm o H locs) (hl : lv_has ls 7 [(0, .ref b), (1, .ref (V.2.2 0)), (2, .ref (V2.2.2 0)), (3, .ref bo), (4, .int x4)]) : W p l e room_1 s m #[Value.ref b] below meth c H locs (94 + t) (31332 + 6 * t) (lw_Z below #[Value.ref b] s) (F0 m 907 ls []) := by
  obtain ⟨hx, hb, hml, hown, hg, hrt, hlk, hKX⟩ := id K.1
  have hX := K.2.2.2.2.2.2.2.2.2.2.2.2.2.2.1
  have hbl := K.2.2.2.2.2.2.2.2.2.2.2.2.2.2.2
  have hbA : ¬ (fun q : Nat => s.heap.size ≤ q) b := Nat.not_le.mpr hbl
  have hcs : 94 + t ≤ 603072 ∧ 31332 + 6 * t ≤ 7194730 := ⟨by omega, by omega⟩
  obtain ⟨wc2, wm2, r, hc, hm, hI⟩ := hops.2.2.2.2.2.2.2.2.2.2.2.2.2.2.2.2.2.2.2.2.2.2 t wc wm  ht6 hI
  refine lv_aload_n (pc := 907) hx hb dL_law_907 rfl (lv_at hl 1 rfl) ?_
  refine lw_callCI (pc := 908) (As := []) (rest := []) K h (mX10_clear hc) cw_L_115 rfl rfl (Nat.le_of_ble_eq_true rfl) hl.1 hcs dL_law_908 (fun H locs h => ?_)
  refine lv_aload_n (pc := 911) hx hb dL_law_911 rfl (lv_at hl 2 rfl) ?_
  refine lw_callMI (pc := 912) (As := []) (rest := [.int r]) K h (mX11_clear hm) cw_L_118 rfl rfl (Nat.le_of_ble_eq_true rfl) hl.1 hcs dL_law_912 (fun H locs h => ?_)
  refine lv_icmp_eq (pc := 915) (tgt := 920) hx hb dL_law_915 (by decide) (fun _ => ?_) (fun q => absurd rfl q)
  exact next wc2 wm2 o hI _ _ _ h hl
