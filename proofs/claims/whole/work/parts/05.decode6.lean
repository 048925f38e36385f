theorem d_W_law_0 : decode code 0 = .ok (.new 7, 3) := by decide +kernel
theorem d_W_law_3 : decode code 3 = .ok (.dup, 1) := by decide +kernel
theorem d_W_law_4 : decode code 4 = .ok (.invokespecial 9, 3) := by decide +kernel
theorem d_W_law_7 : decode code 7 = .ok (.astore_n 1, 1) := by decide +kernel
theorem d_W_law_8 : decode code 8 = .ok (.new 10, 3) := by decide +kernel
theorem d_W_law_11 : decode code 11 = .ok (.dup, 1) := by decide +kernel
theorem d_W_law_12 : decode code 12 = .ok (.invokespecial 12, 3) := by decide +kernel
theorem d_W_law_15 : decode code 15 = .ok (.astore_n 2, 1) := by decide +kernel
theorem d_W_law_16 : decode code 16 = .ok (.iconst 0, 1) := by decide +kernel
theorem d_W_law_17 : decode code 17 = .ok (.istore_n 3, 1) := by decide +kernel
theorem d_W_law_18 : decode code 18 = .ok (.iload_n 3, 1) := by decide +kernel
theorem d_W_law_19 : decode code 19 = .ok (.aload_n 0, 1) := by decide +kernel
theorem d_W_law_20 : decode code 20 = .ok (.arraylength, 1) := by decide +kernel
theorem d_W_law_21 : decode code 21 = .ok (.iconst 5, 1) := by decide +kernel
theorem d_W_law_22 : decode code 22 = .ok (.isub, 1) := by decide +kernel
theorem d_W_law_23 : decode code 23 = .ok (.if_icmp .gt 710, 3) := by decide +kernel
theorem d_W_law_26 : decode code 26 = .ok (.aload_n 0, 1) := by decide +kernel
theorem d_W_law_27 : decode code 27 = .ok (.iload_n 3, 1) := by decide +kernel
theorem d_W_law_28 : decode code 28 = .ok (.iaload, 1) := by decide +kernel
theorem d_W_law_29 : decode code 29 = .ok (.bipush 31, 2) := by decide +kernel
theorem d_W_law_31 : decode code 31 = .ok (.iand, 1) := by decide +kernel
theorem d_W_law_32 : decode code 32 = .ok (.tableswitch 695 0 18 #[92, 105, 148, 181, 214, 237, 286, 299, 352, 385, 418, 431, 484, 497, 530, 563, 606, 639, 672], 92) := by decide +kernel
theorem d_W_law_124 : decode code 124 = .ok (.aload_n 1, 1) := by decide +kernel
theorem d_W_law_125 : decode code 125 = .ok (.invokevirtual 13, 3) := by decide +kernel
theorem d_W_law_128 : decode code 128 = .ok (.aload_n 2, 1) := by decide +kernel
theorem d_W_law_129 : decode code 129 = .ok (.invokevirtual 17, 3) := by decide +kernel
theorem d_W_law_132 : decode code 132 = .ok (.if_icmp .eq 595, 3) := by decide +kernel
theorem d_W_law_135 : decode code 135 = .ok (.iconst 0, 1) := by decide +kernel
theorem d_W_law_136 : decode code 136 = .ok (.ireturn, 1) := by decide +kernel
theorem d_W_law_137 : decode code 137 = .ok (.aload_n 1, 1) := by decide +kernel
theorem d_W_law_138 : decode code 138 = .ok (.aload_n 0, 1) := by decide +kernel
theorem d_W_law_139 : decode code 139 = .ok (.iload_n 3, 1) := by decide +kernel
theorem d_W_law_140 : decode code 140 = .ok (.iconst 1, 1) := by decide +kernel
theorem d_W_law_141 : decode code 141 = .ok (.iadd, 1) := by decide +kernel
theorem d_W_law_142 : decode code 142 = .ok (.iaload, 1) := by decide +kernel
theorem d_W_law_143 : decode code 143 = .ok (.aload_n 0, 1) := by decide +kernel
theorem d_W_law_144 : decode code 144 = .ok (.iload_n 3, 1) := by decide +kernel
theorem d_W_law_145 : decode code 145 = .ok (.iconst 2, 1) := by decide +kernel
theorem d_W_law_146 : decode code 146 = .ok (.iadd, 1) := by decide +kernel
theorem d_W_law_147 : decode code 147 = .ok (.iaload, 1) := by decide +kernel
theorem d_W_law_148 : decode code 148 = .ok (.aload_n 0, 1) := by decide +kernel
theorem d_W_law_149 : decode code 149 = .ok (.iload_n 3, 1) := by decide +kernel
theorem d_W_law_150 : decode code 150 = .ok (.iconst 3, 1) := by decide +kernel
theorem d_W_law_151 : decode code 151 = .ok (.iadd, 1) := by decide +kernel
theorem d_W_law_152 : decode code 152 = .ok (.iaload, 1) := by decide +kernel
theorem d_W_law_153 : decode code 153 = .ok (.invokevirtual 18, 3) := by decide +kernel
theorem d_W_law_156 : decode code 156 = .ok (.aload_n 2, 1) := by decide +kernel
theorem d_W_law_157 : decode code 157 = .ok (.aload_n 0, 1) := by decide +kernel
theorem d_W_law_158 : decode code 158 = .ok (.iload_n 3, 1) := by decide +kernel
theorem d_W_law_159 : decode code 159 = .ok (.iconst 1, 1) := by decide +kernel
theorem d_W_law_160 : decode code 160 = .ok (.iadd, 1) := by decide +kernel
theorem d_W_law_161 : decode code 161 = .ok (.iaload, 1) := by decide +kernel
theorem d_W_law_162 : decode code 162 = .ok (.aload_n 0, 1) := by decide +kernel
theorem d_W_law_163 : decode code 163 = .ok (.iload_n 3, 1) := by decide +kernel
theorem d_W_law_164 : decode code 164 = .ok (.iconst 2, 1) := by decide +kernel
theorem d_W_law_165 : decode code 165 = .ok (.iadd, 1) := by decide +kernel
theorem d_W_law_166 : decode code 166 = .ok (.iaload, 1) := by decide +kernel
theorem d_W_law_167 : decode code 167 = .ok (.aload_n 0, 1) := by decide +kernel
theorem d_W_law_168 : decode code 168 = .ok (.iload_n 3, 1) := by decide +kernel
theorem d_W_law_169 : decode code 169 = .ok (.iconst 3, 1) := by decide +kernel
theorem d_W_law_170 : decode code 170 = .ok (.iadd, 1) := by decide +kernel
theorem d_W_law_171 : decode code 171 = .ok (.iaload, 1) := by decide +kernel
theorem d_W_law_172 : decode code 172 = .ok (.invokevirtual 22, 3) := by decide +kernel
theorem d_W_law_175 : decode code 175 = .ok (.if_icmp .eq 552, 3) := by decide +kernel
theorem d_W_law_178 : decode code 178 = .ok (.iconst 0, 1) := by decide +kernel
theorem d_W_law_179 : decode code 179 = .ok (.ireturn, 1) := by decide +kernel
theorem d_W_law_180 : decode code 180 = .ok (.aload_n 1, 1) := by decide +kernel
theorem d_W_law_181 : decode code 181 = .ok (.aload_n 0, 1) := by decide +kernel
theorem d_W_law_182 : decode code 182 = .ok (.iload_n 3, 1) := by decide +kernel
theorem d_W_law_183 : decode code 183 = .ok (.iconst 1, 1) := by decide +kernel
theorem d_W_law_184 : decode code 184 = .ok (.iadd, 1) := by decide +kernel
theorem d_W_law_185 : decode code 185 = .ok (.iaload, 1) := by decide +kernel
theorem d_W_law_186 : decode code 186 = .ok (.aload_n 0, 1) := by decide +kernel
theorem d_W_law_187 : decode code 187 = .ok (.iload_n 3, 1) := by decide +kernel
theorem d_W_law_188 : decode code 188 = .ok (.iconst 2, 1) := by decide +kernel
theorem d_W_law_189 : decode code 189 = .ok (.iadd, 1) := by decide +kernel
theorem d_W_law_190 : decode code 190 = .ok (.iaload, 1) := by decide +kernel
theorem d_W_law_191 : decode code 191 = .ok (.invokevirtual 23, 3) := by decide +kernel
theorem d_W_law_194 : decode code 194 = .ok (.aload_n 2, 1) := by decide +kernel
theorem d_W_law_195 : decode code 195 = .ok (.aload_n 0, 1) := by decide +kernel
theorem d_W_law_196 : decode code 196 = .ok (.iload_n 3, 1) := by decide +kernel
theorem d_W_law_197 : decode code 197 = .ok (.iconst 1, 1) := by decide +kernel
theorem d_W_law_198 : decode code 198 = .ok (.iadd, 1) := by decide +kernel
theorem d_W_law_199 : decode code 199 = .ok (.iaload, 1) := by decide +kernel
theorem d_W_law_200 : decode code 200 = .ok (.aload_n 0, 1) := by decide +kernel
theorem d_W_law_201 : decode code 201 = .ok (.iload_n 3, 1) := by decide +kernel
theorem d_W_law_202 : decode code 202 = .ok (.iconst 2, 1) := by decide +kernel
theorem d_W_law_203 : decode code 203 = .ok (.iadd, 1) := by decide +kernel
theorem d_W_law_204 : decode code 204 = .ok (.iaload, 1) := by decide +kernel
theorem d_W_law_205 : decode code 205 = .ok (.invokevirtual 27, 3) := by decide +kernel
theorem d_W_law_208 : decode code 208 = .ok (.if_icmp .eq 519, 3) := by decide +kernel
theorem d_W_law_211 : decode code 211 = .ok (.iconst 0, 1) := by decide +kernel
theorem d_W_law_212 : decode code 212 = .ok (.ireturn, 1) := by decide +kernel
theorem d_W_law_213 : decode code 213 = .ok (.aload_n 1, 1) := by decide +kernel
theorem d_W_law_214 : decode code 214 = .ok (.aload_n 0, 1) := by decide +kernel
theorem d_W_law_215 : decode code 215 = .ok (.iload_n 3, 1) := by decide +kernel
theorem d_W_law_216 : decode code 216 = .ok (.iconst 1, 1) := by decide +kernel
theorem d_W_law_217 : decode code 217 = .ok (.iadd, 1) := by decide +kernel
theorem d_W_law_218 : decode code 218 = .ok (.iaload, 1) := by decide +kernel
theorem d_W_law_219 : decode code 219 = .ok (.aload_n 0, 1) := by decide +kernel
theorem d_W_law_220 : decode code 220 = .ok (.iload_n 3, 1) := by decide +kernel
theorem d_W_law_221 : decode code 221 = .ok (.iconst 2, 1) := by decide +kernel
theorem d_W_law_222 : decode code 222 = .ok (.iadd, 1) := by decide +kernel
theorem d_W_law_223 : decode code 223 = .ok (.iaload, 1) := by decide +kernel
theorem d_W_law_224 : decode code 224 = .ok (.invokevirtual 28, 3) := by decide +kernel
theorem d_W_law_227 : decode code 227 = .ok (.aload_n 2, 1) := by decide +kernel
theorem d_W_law_228 : decode code 228 = .ok (.aload_n 0, 1) := by decide +kernel
theorem d_W_law_229 : decode code 229 = .ok (.iload_n 3, 1) := by decide +kernel
theorem d_W_law_230 : decode code 230 = .ok (.iconst 1, 1) := by decide +kernel
theorem d_W_law_231 : decode code 231 = .ok (.iadd, 1) := by decide +kernel
theorem d_W_law_232 : decode code 232 = .ok (.iaload, 1) := by decide +kernel
theorem d_W_law_233 : decode code 233 = .ok (.aload_n 0, 1) := by decide +kernel
theorem d_W_law_234 : decode code 234 = .ok (.iload_n 3, 1) := by decide +kernel
theorem d_W_law_235 : decode code 235 = .ok (.iconst 2, 1) := by decide +kernel
theorem d_W_law_236 : decode code 236 = .ok (.iadd, 1) := by decide +kernel
theorem d_W_law_237 : decode code 237 = .ok (.iaload, 1) := by decide +kernel
theorem d_W_law_238 : decode code 238 = .ok (.invokevirtual 31, 3) := by decide +kernel
theorem d_W_law_241 : decode code 241 = .ok (.if_icmp .eq 486, 3) := by decide +kernel
theorem d_W_law_244 : decode code 244 = .ok (.iconst 0, 1) := by decide +kernel
theorem d_W_law_245 : decode code 245 = .ok (.ireturn, 1) := by decide +kernel
theorem d_W_law_246 : decode code 246 = .ok (.aload_n 1, 1) := by decide +kernel
theorem d_W_law_247 : decode code 247 = .ok (.aload_n 0, 1) := by decide +kernel
theorem d_W_law_248 : decode code 248 = .ok (.iload_n 3, 1) := by decide +kernel
theorem d_W_law_249 : decode code 249 = .ok (.iconst 1, 1) := by decide +kernel
theorem d_W_law_250 : decode code 250 = .ok (.iadd, 1) := by decide +kernel
theorem d_W_law_251 : decode code 251 = .ok (.iaload, 1) := by decide +kernel
theorem d_W_law_252 : decode code 252 = .ok (.invokevirtual 32, 3) := by decide +kernel
theorem d_W_law_255 : decode code 255 = .ok (.aload_n 2, 1) := by decide +kernel
theorem d_W_law_256 : decode code 256 = .ok (.aload_n 0, 1) := by decide +kernel
theorem d_W_law_257 : decode code 257 = .ok (.iload_n 3, 1) := by decide +kernel
theorem d_W_law_258 : decode code 258 = .ok (.iconst 1, 1) := by decide +kernel
theorem d_W_law_259 : decode code 259 = .ok (.iadd, 1) := by decide +kernel
theorem d_W_law_260 : decode code 260 = .ok (.iaload, 1) := by decide +kernel
theorem d_W_law_261 : decode code 261 = .ok (.invokevirtual 36, 3) := by decide +kernel
theorem d_W_law_264 : decode code 264 = .ok (.if_icmp .eq 463, 3) := by decide +kernel
theorem d_W_law_267 : decode code 267 = .ok (.iconst 0, 1) := by decide +kernel
theorem d_W_law_268 : decode code 268 = .ok (.ireturn, 1) := by decide +kernel
theorem d_W_law_269 : decode code 269 = .ok (.aload_n 1, 1) := by decide +kernel
theorem d_W_law_270 : decode code 270 = .ok (.aload_n 0, 1) := by decide +kernel
theorem d_W_law_271 : decode code 271 = .ok (.iload_n 3, 1) := by decide +kernel
theorem d_W_law_272 : decode code 272 = .ok (.iconst 1, 1) := by decide +kernel
theorem d_W_law_273 : decode code 273 = .ok (.iadd, 1) := by decide +kernel
theorem d_W_law_274 : decode code 274 = .ok (.iaload, 1) := by decide +kernel
theorem d_W_law_275 : decode code 275 = .ok (.aload_n 0, 1) := by decide +kernel
theorem d_W_law_276 : decode code 276 = .ok (.iload_n 3, 1) := by decide +kernel
theorem d_W_law_277 : decode code 277 = .ok (.iconst 2, 1) := by decide +kernel
theorem d_W_law_278 : decode code 278 = .ok (.iadd, 1) := by decide +kernel
theorem d_W_law_279 : decode code 279 = .ok (.iaload, 1) := by decide +kernel
theorem d_W_law_280 : decode code 280 = .ok (.ifCond .eq 7, 3) := by decide +kernel
theorem d_W_law_283 : decode code 283 = .ok (.iconst 1, 1) := by decide +kernel
theorem d_W_law_284 : decode code 284 = .ok (.goto 4, 3) := by decide +kernel
theorem d_W_law_287 : decode code 287 = .ok (.iconst 0, 1) := by decide +kernel
theorem d_W_law_288 : decode code 288 = .ok (.invokevirtual 37, 3) := by decide +kernel
theorem d_W_law_291 : decode code 291 = .ok (.aload_n 2, 1) := by decide +kernel
theorem d_W_law_292 : decode code 292 = .ok (.aload_n 0, 1) := by decide +kernel
theorem d_W_law_293 : decode code 293 = .ok (.iload_n 3, 1) := by decide +kernel
theorem d_W_law_294 : decode code 294 = .ok (.iconst 1, 1) := by decide +kernel
theorem d_W_law_295 : decode code 295 = .ok (.iadd, 1) := by decide +kernel
theorem d_W_law_296 : decode code 296 = .ok (.iaload, 1) := by decide +kernel
theorem d_W_law_297 : decode code 297 = .ok (.aload_n 0, 1) := by decide +kernel
theorem d_W_law_298 : decode code 298 = .ok (.iload_n 3, 1) := by decide +kernel
theorem d_W_law_299 : decode code 299 = .ok (.iconst 2, 1) := by decide +kernel
theorem d_W_law_300 : decode code 300 = .ok (.iadd, 1) := by decide +kernel
theorem d_W_law_301 : decode code 301 = .ok (.iaload, 1) := by decide +kernel
theorem d_W_law_302 : decode code 302 = .ok (.ifCond .eq 7, 3) := by decide +kernel
theorem d_W_law_305 : decode code 305 = .ok (.iconst 1, 1) := by decide +kernel
theorem d_W_law_306 : decode code 306 = .ok (.goto 4, 3) := by decide +kernel
theorem d_W_law_309 : decode code 309 = .ok (.iconst 0, 1) := by decide +kernel
theorem d_W_law_310 : decode code 310 = .ok (.invokevirtual 41, 3) := by decide +kernel
theorem d_W_law_313 : decode code 313 = .ok (.if_icmp .eq 414, 3) := by decide +kernel
theorem d_W_law_316 : decode code 316 = .ok (.iconst 0, 1) := by decide +kernel
theorem d_W_law_317 : decode code 317 = .ok (.ireturn, 1) := by decide +kernel
theorem d_W_law_318 : decode code 318 = .ok (.aload_n 1, 1) := by decide +kernel
theorem d_W_law_319 : decode code 319 = .ok (.invokevirtual 42, 3) := by decide +kernel
theorem d_W_law_322 : decode code 322 = .ok (.aload_n 2, 1) := by decide +kernel
theorem d_W_law_323 : decode code 323 = .ok (.invokevirtual 45, 3) := by decide +kernel
theorem d_W_law_326 : decode code 326 = .ok (.if_icmp .eq 401, 3) := by decide +kernel
theorem d_W_law_329 : decode code 329 = .ok (.iconst 0, 1) := by decide +kernel
theorem d_W_law_330 : decode code 330 = .ok (.ireturn, 1) := by decide +kernel
theorem d_W_law_331 : decode code 331 = .ok (.aload_n 1, 1) := by decide +kernel
theorem d_W_law_332 : decode code 332 = .ok (.aload_n 0, 1) := by decide +kernel
theorem d_W_law_333 : decode code 333 = .ok (.iload_n 3, 1) := by decide +kernel
theorem d_W_law_334 : decode code 334 = .ok (.iconst 1, 1) := by decide +kernel
theorem d_W_law_335 : decode code 335 = .ok (.iadd, 1) := by decide +kernel
theorem d_W_law_336 : decode code 336 = .ok (.iaload, 1) := by decide +kernel
theorem d_W_law_337 : decode code 337 = .ok (.aload_n 0, 1) := by decide +kernel
theorem d_W_law_338 : decode code 338 = .ok (.iload_n 3, 1) := by decide +kernel
theorem d_W_law_339 : decode code 339 = .ok (.iconst 2, 1) := by decide +kernel
theorem d_W_law_340 : decode code 340 = .ok (.iadd, 1) := by decide +kernel
theorem d_W_law_341 : decode code 341 = .ok (.iaload, 1) := by decide +kernel
theorem d_W_law_342 : decode code 342 = .ok (.aload_n 0, 1) := by decide +kernel
theorem d_W_law_343 : decode code 343 = .ok (.iload_n 3, 1) := by decide +kernel
theorem d_W_law_344 : decode code 344 = .ok (.iconst 3, 1) := by decide +kernel
theorem d_W_law_345 : decode code 345 = .ok (.iadd, 1) := by decide +kernel
theorem d_W_law_346 : decode code 346 = .ok (.iaload, 1) := by decide +kernel
theorem d_W_law_347 : decode code 347 = .ok (.aload_n 0, 1) := by decide +kernel
theorem d_W_law_348 : decode code 348 = .ok (.iload_n 3, 1) := by decide +kernel
theorem d_W_law_349 : decode code 349 = .ok (.iconst 4, 1) := by decide +kernel
theorem d_W_law_350 : decode code 350 = .ok (.iadd, 1) := by decide +kernel
theorem d_W_law_351 : decode code 351 = .ok (.iaload, 1) := by decide +kernel
theorem d_W_law_352 : decode code 352 = .ok (.invokevirtual 46, 3) := by decide +kernel
theorem d_W_law_355 : decode code 355 = .ok (.aload_n 2, 1) := by decide +kernel
theorem d_W_law_356 : decode code 356 = .ok (.aload_n 0, 1) := by decide +kernel
theorem d_W_law_357 : decode code 357 = .ok (.iload_n 3, 1) := by decide +kernel
theorem d_W_law_358 : decode code 358 = .ok (.iconst 1, 1) := by decide +kernel
theorem d_W_law_359 : decode code 359 = .ok (.iadd, 1) := by decide +kernel
theorem d_W_law_360 : decode code 360 = .ok (.iaload, 1) := by decide +kernel
theorem d_W_law_361 : decode code 361 = .ok (.aload_n 0, 1) := by decide +kernel
theorem d_W_law_362 : decode code 362 = .ok (.iload_n 3, 1) := by decide +kernel
theorem d_W_law_363 : decode code 363 = .ok (.iconst 2, 1) := by decide +kernel
theorem d_W_law_364 : decode code 364 = .ok (.iadd, 1) := by decide +kernel
theorem d_W_law_365 : decode code 365 = .ok (.iaload, 1) := by decide +kernel
theorem d_W_law_366 : decode code 366 = .ok (.aload_n 0, 1) := by decide +kernel
theorem d_W_law_367 : decode code 367 = .ok (.iload_n 3, 1) := by decide +kernel
theorem d_W_law_368 : decode code 368 = .ok (.iconst 3, 1) := by decide +kernel
theorem d_W_law_369 : decode code 369 = .ok (.iadd, 1) := by decide +kernel
theorem d_W_law_370 : decode code 370 = .ok (.iaload, 1) := by decide +kernel
theorem d_W_law_371 : decode code 371 = .ok (.aload_n 0, 1) := by decide +kernel
theorem d_W_law_372 : decode code 372 = .ok (.iload_n 3, 1) := by decide +kernel
theorem d_W_law_373 : decode code 373 = .ok (.iconst 4, 1) := by decide +kernel
theorem d_W_law_374 : decode code 374 = .ok (.iadd, 1) := by decide +kernel
theorem d_W_law_375 : decode code 375 = .ok (.iaload, 1) := by decide +kernel
theorem d_W_law_376 : decode code 376 = .ok (.invokevirtual 50, 3) := by decide +kernel
theorem d_W_law_379 : decode code 379 = .ok (.if_icmp .eq 348, 3) := by decide +kernel
theorem d_W_law_382 : decode code 382 = .ok (.iconst 0, 1) := by decide +kernel
theorem d_W_law_383 : decode code 383 = .ok (.ireturn, 1) := by decide +kernel
theorem d_W_law_384 : decode code 384 = .ok (.aload_n 1, 1) := by decide +kernel
theorem d_W_law_385 : decode code 385 = .ok (.aload_n 0, 1) := by decide +kernel
theorem d_W_law_386 : decode code 386 = .ok (.iload_n 3, 1) := by decide +kernel
theorem d_W_law_387 : decode code 387 = .ok (.iconst 1, 1) := by decide +kernel
theorem d_W_law_388 : decode code 388 = .ok (.iadd, 1) := by decide +kernel
theorem d_W_law_389 : decode code 389 = .ok (.iaload, 1) := by decide +kernel
theorem d_W_law_390 : decode code 390 = .ok (.aload_n 0, 1) := by decide +kernel
theorem d_W_law_391 : decode code 391 = .ok (.iload_n 3, 1) := by decide +kernel
theorem d_W_law_392 : decode code 392 = .ok (.iconst 2, 1) := by decide +kernel
theorem d_W_law_393 : decode code 393 = .ok (.iadd, 1) := by decide +kernel
theorem d_W_law_394 : decode code 394 = .ok (.iaload, 1) := by decide +kernel
theorem d_W_law_395 : decode code 395 = .ok (.invokevirtual 51, 3) := by decide +kernel
theorem d_W_law_398 : decode code 398 = .ok (.aload_n 2, 1) := by decide +kernel
theorem d_W_law_399 : decode code 399 = .ok (.aload_n 0, 1) := by decide +kernel
theorem d_W_law_400 : decode code 400 = .ok (.iload_n 3, 1) := by decide +kernel
theorem d_W_law_401 : decode code 401 = .ok (.iconst 1, 1) := by decide +kernel
theorem d_W_law_402 : decode code 402 = .ok (.iadd, 1) := by decide +kernel
theorem d_W_law_403 : decode code 403 = .ok (.iaload, 1) := by decide +kernel
theorem d_W_law_404 : decode code 404 = .ok (.aload_n 0, 1) := by decide +kernel
theorem d_W_law_405 : decode code 405 = .ok (.iload_n 3, 1) := by decide +kernel
theorem d_W_law_406 : decode code 406 = .ok (.iconst 2, 1) := by decide +kernel
theorem d_W_law_407 : decode code 407 = .ok (.iadd, 1) := by decide +kernel
theorem d_W_law_408 : decode code 408 = .ok (.iaload, 1) := by decide +kernel
theorem d_W_law_409 : decode code 409 = .ok (.invokevirtual 54, 3) := by decide +kernel
theorem d_W_law_412 : decode code 412 = .ok (.if_icmp .eq 315, 3) := by decide +kernel
theorem d_W_law_415 : decode code 415 = .ok (.iconst 0, 1) := by decide +kernel
theorem d_W_law_416 : decode code 416 = .ok (.ireturn, 1) := by decide +kernel
theorem d_W_law_417 : decode code 417 = .ok (.aload_n 1, 1) := by decide +kernel
theorem d_W_law_418 : decode code 418 = .ok (.aload_n 0, 1) := by decide +kernel
theorem d_W_law_419 : decode code 419 = .ok (.iload_n 3, 1) := by decide +kernel
theorem d_W_law_420 : decode code 420 = .ok (.iconst 1, 1) := by decide +kernel
theorem d_W_law_421 : decode code 421 = .ok (.iadd, 1) := by decide +kernel
theorem d_W_law_422 : decode code 422 = .ok (.iaload, 1) := by decide +kernel
theorem d_W_law_423 : decode code 423 = .ok (.aload_n 0, 1) := by decide +kernel
theorem d_W_law_424 : decode code 424 = .ok (.iload_n 3, 1) := by decide +kernel
theorem d_W_law_425 : decode code 425 = .ok (.iconst 2, 1) := by decide +kernel
theorem d_W_law_426 : decode code 426 = .ok (.iadd, 1) := by decide +kernel
theorem d_W_law_427 : decode code 427 = .ok (.iaload, 1) := by decide +kernel
theorem d_W_law_428 : decode code 428 = .ok (.invokevirtual 55, 3) := by decide +kernel
theorem d_W_law_431 : decode code 431 = .ok (.aload_n 2, 1) := by decide +kernel
theorem d_W_law_432 : decode code 432 = .ok (.aload_n 0, 1) := by decide +kernel
theorem d_W_law_433 : decode code 433 = .ok (.iload_n 3, 1) := by decide +kernel
theorem d_W_law_434 : decode code 434 = .ok (.iconst 1, 1) := by decide +kernel
theorem d_W_law_435 : decode code 435 = .ok (.iadd, 1) := by decide +kernel
theorem d_W_law_436 : decode code 436 = .ok (.iaload, 1) := by decide +kernel
theorem d_W_law_437 : decode code 437 = .ok (.aload_n 0, 1) := by decide +kernel
theorem d_W_law_438 : decode code 438 = .ok (.iload_n 3, 1) := by decide +kernel
theorem d_W_law_439 : decode code 439 = .ok (.iconst 2, 1) := by decide +kernel
theorem d_W_law_440 : decode code 440 = .ok (.iadd, 1) := by decide +kernel
theorem d_W_law_441 : decode code 441 = .ok (.iaload, 1) := by decide +kernel
theorem d_W_law_442 : decode code 442 = .ok (.invokevirtual 58, 3) := by decide +kernel
theorem d_W_law_445 : decode code 445 = .ok (.if_icmp .eq 282, 3) := by decide +kernel
theorem d_W_law_448 : decode code 448 = .ok (.iconst 0, 1) := by decide +kernel
theorem d_W_law_449 : decode code 449 = .ok (.ireturn, 1) := by decide +kernel
theorem d_W_law_450 : decode code 450 = .ok (.aload_n 1, 1) := by decide +kernel
theorem d_W_law_451 : decode code 451 = .ok (.invokevirtual 59, 3) := by decide +kernel
theorem d_W_law_454 : decode code 454 = .ok (.aload_n 2, 1) := by decide +kernel
theorem d_W_law_455 : decode code 455 = .ok (.invokevirtual 62, 3) := by decide +kernel
theorem d_W_law_458 : decode code 458 = .ok (.if_icmp .eq 269, 3) := by decide +kernel
theorem d_W_law_461 : decode code 461 = .ok (.iconst 0, 1) := by decide +kernel
theorem d_W_law_462 : decode code 462 = .ok (.ireturn, 1) := by decide +kernel
theorem d_W_law_463 : decode code 463 = .ok (.aload_n 1, 1) := by decide +kernel
theorem d_W_law_464 : decode code 464 = .ok (.aload_n 0, 1) := by decide +kernel
theorem d_W_law_465 : decode code 465 = .ok (.iload_n 3, 1) := by decide +kernel
theorem d_W_law_466 : decode code 466 = .ok (.iconst 1, 1) := by decide +kernel
theorem d_W_law_467 : decode code 467 = .ok (.iadd, 1) := by decide +kernel
theorem d_W_law_468 : decode code 468 = .ok (.iaload, 1) := by decide +kernel
theorem d_W_law_469 : decode code 469 = .ok (.aload_n 0, 1) := by decide +kernel
theorem d_W_law_470 : decode code 470 = .ok (.iload_n 3, 1) := by decide +kernel
theorem d_W_law_471 : decode code 471 = .ok (.iconst 2, 1) := by decide +kernel
theorem d_W_law_472 : decode code 472 = .ok (.iadd, 1) := by decide +kernel
theorem d_W_law_473 : decode code 473 = .ok (.iaload, 1) := by decide +kernel
theorem d_W_law_474 : decode code 474 = .ok (.aload_n 0, 1) := by decide +kernel
theorem d_W_law_475 : decode code 475 = .ok (.iload_n 3, 1) := by decide +kernel
theorem d_W_law_476 : decode code 476 = .ok (.iconst 3, 1) := by decide +kernel
theorem d_W_law_477 : decode code 477 = .ok (.iadd, 1) := by decide +kernel
theorem d_W_law_478 : decode code 478 = .ok (.iaload, 1) := by decide +kernel
theorem d_W_law_479 : decode code 479 = .ok (.aload_n 0, 1) := by decide +kernel
theorem d_W_law_480 : decode code 480 = .ok (.iload_n 3, 1) := by decide +kernel
theorem d_W_law_481 : decode code 481 = .ok (.iconst 4, 1) := by decide +kernel
theorem d_W_law_482 : decode code 482 = .ok (.iadd, 1) := by decide +kernel
theorem d_W_law_483 : decode code 483 = .ok (.iaload, 1) := by decide +kernel
theorem d_W_law_484 : decode code 484 = .ok (.invokevirtual 63, 3) := by decide +kernel
theorem d_W_law_487 : decode code 487 = .ok (.aload_n 2, 1) := by decide +kernel
theorem d_W_law_488 : decode code 488 = .ok (.aload_n 0, 1) := by decide +kernel
theorem d_W_law_489 : decode code 489 = .ok (.iload_n 3, 1) := by decide +kernel
theorem d_W_law_490 : decode code 490 = .ok (.iconst 1, 1) := by decide +kernel
theorem d_W_law_491 : decode code 491 = .ok (.iadd, 1) := by decide +kernel
theorem d_W_law_492 : decode code 492 = .ok (.iaload, 1) := by decide +kernel
theorem d_W_law_493 : decode code 493 = .ok (.aload_n 0, 1) := by decide +kernel
theorem d_W_law_494 : decode code 494 = .ok (.iload_n 3, 1) := by decide +kernel
theorem d_W_law_495 : decode code 495 = .ok (.iconst 2, 1) := by decide +kernel
theorem d_W_law_496 : decode code 496 = .ok (.iadd, 1) := by decide +kernel
theorem d_W_law_497 : decode code 497 = .ok (.iaload, 1) := by decide +kernel
theorem d_W_law_498 : decode code 498 = .ok (.aload_n 0, 1) := by decide +kernel
theorem d_W_law_499 : decode code 499 = .ok (.iload_n 3, 1) := by decide +kernel
theorem d_W_law_500 : decode code 500 = .ok (.iconst 3, 1) := by decide +kernel
theorem d_W_law_501 : decode code 501 = .ok (.iadd, 1) := by decide +kernel
theorem d_W_law_502 : decode code 502 = .ok (.iaload, 1) := by decide +kernel
theorem d_W_law_503 : decode code 503 = .ok (.aload_n 0, 1) := by decide +kernel
theorem d_W_law_504 : decode code 504 = .ok (.iload_n 3, 1) := by decide +kernel
theorem d_W_law_505 : decode code 505 = .ok (.iconst 4, 1) := by decide +kernel
theorem d_W_law_506 : decode code 506 = .ok (.iadd, 1) := by decide +kernel
theorem d_W_law_507 : decode code 507 = .ok (.iaload, 1) := by decide +kernel
theorem d_W_law_508 : decode code 508 = .ok (.invokevirtual 66, 3) := by decide +kernel
theorem d_W_law_511 : decode code 511 = .ok (.if_icmp .eq 216, 3) := by decide +kernel
theorem d_W_law_514 : decode code 514 = .ok (.iconst 0, 1) := by decide +kernel
theorem d_W_law_515 : decode code 515 = .ok (.ireturn, 1) := by decide +kernel
theorem d_W_law_516 : decode code 516 = .ok (.aload_n 1, 1) := by decide +kernel
theorem d_W_law_517 : decode code 517 = .ok (.invokevirtual 67, 3) := by decide +kernel
theorem d_W_law_520 : decode code 520 = .ok (.aload_n 2, 1) := by decide +kernel
theorem d_W_law_521 : decode code 521 = .ok (.invokevirtual 70, 3) := by decide +kernel
theorem d_W_law_524 : decode code 524 = .ok (.if_icmp .eq 203, 3) := by decide +kernel
theorem d_W_law_527 : decode code 527 = .ok (.iconst 0, 1) := by decide +kernel
theorem d_W_law_528 : decode code 528 = .ok (.ireturn, 1) := by decide +kernel
theorem d_W_law_529 : decode code 529 = .ok (.aload_n 1, 1) := by decide +kernel
theorem d_W_law_530 : decode code 530 = .ok (.aload_n 0, 1) := by decide +kernel
theorem d_W_law_531 : decode code 531 = .ok (.iload_n 3, 1) := by decide +kernel
theorem d_W_law_532 : decode code 532 = .ok (.iconst 1, 1) := by decide +kernel
theorem d_W_law_533 : decode code 533 = .ok (.iadd, 1) := by decide +kernel
theorem d_W_law_534 : decode code 534 = .ok (.iaload, 1) := by decide +kernel
theorem d_W_law_535 : decode code 535 = .ok (.aload_n 0, 1) := by decide +kernel
theorem d_W_law_536 : decode code 536 = .ok (.iload_n 3, 1) := by decide +kernel
theorem d_W_law_537 : decode code 537 = .ok (.iconst 2, 1) := by decide +kernel
theorem d_W_law_538 : decode code 538 = .ok (.iadd, 1) := by decide +kernel
theorem d_W_law_539 : decode code 539 = .ok (.iaload, 1) := by decide +kernel
theorem d_W_law_540 : decode code 540 = .ok (.invokevirtual 71, 3) := by decide +kernel
theorem d_W_law_543 : decode code 543 = .ok (.aload_n 2, 1) := by decide +kernel
theorem d_W_law_544 : decode code 544 = .ok (.aload_n 0, 1) := by decide +kernel
theorem d_W_law_545 : decode code 545 = .ok (.iload_n 3, 1) := by decide +kernel
theorem d_W_law_546 : decode code 546 = .ok (.iconst 1, 1) := by decide +kernel
theorem d_W_law_547 : decode code 547 = .ok (.iadd, 1) := by decide +kernel
theorem d_W_law_548 : decode code 548 = .ok (.iaload, 1) := by decide +kernel
theorem d_W_law_549 : decode code 549 = .ok (.aload_n 0, 1) := by decide +kernel
theorem d_W_law_550 : decode code 550 = .ok (.iload_n 3, 1) := by decide +kernel
theorem d_W_law_551 : decode code 551 = .ok (.iconst 2, 1) := by decide +kernel
theorem d_W_law_552 : decode code 552 = .ok (.iadd, 1) := by decide +kernel
theorem d_W_law_553 : decode code 553 = .ok (.iaload, 1) := by decide +kernel
theorem d_W_law_554 : decode code 554 = .ok (.invokevirtual 74, 3) := by decide +kernel
theorem d_W_law_557 : decode code 557 = .ok (.if_icmp .eq 170, 3) := by decide +kernel
theorem d_W_law_560 : decode code 560 = .ok (.iconst 0, 1) := by decide +kernel
theorem d_W_law_561 : decode code 561 = .ok (.ireturn, 1) := by decide +kernel
theorem d_W_law_562 : decode code 562 = .ok (.aload_n 1, 1) := by decide +kernel
theorem d_W_law_563 : decode code 563 = .ok (.aload_n 0, 1) := by decide +kernel
theorem d_W_law_564 : decode code 564 = .ok (.iload_n 3, 1) := by decide +kernel
theorem d_W_law_565 : decode code 565 = .ok (.iconst 1, 1) := by decide +kernel
theorem d_W_law_566 : decode code 566 = .ok (.iadd, 1) := by decide +kernel
theorem d_W_law_567 : decode code 567 = .ok (.iaload, 1) := by decide +kernel
theorem d_W_law_568 : decode code 568 = .ok (.aload_n 0, 1) := by decide +kernel
theorem d_W_law_569 : decode code 569 = .ok (.iload_n 3, 1) := by decide +kernel
theorem d_W_law_570 : decode code 570 = .ok (.iconst 2, 1) := by decide +kernel
theorem d_W_law_571 : decode code 571 = .ok (.iadd, 1) := by decide +kernel
theorem d_W_law_572 : decode code 572 = .ok (.iaload, 1) := by decide +kernel
theorem d_W_law_573 : decode code 573 = .ok (.invokevirtual 75, 3) := by decide +kernel
theorem d_W_law_576 : decode code 576 = .ok (.aload_n 2, 1) := by decide +kernel
theorem d_W_law_577 : decode code 577 = .ok (.aload_n 0, 1) := by decide +kernel
theorem d_W_law_578 : decode code 578 = .ok (.iload_n 3, 1) := by decide +kernel
theorem d_W_law_579 : decode code 579 = .ok (.iconst 1, 1) := by decide +kernel
theorem d_W_law_580 : decode code 580 = .ok (.iadd, 1) := by decide +kernel
theorem d_W_law_581 : decode code 581 = .ok (.iaload, 1) := by decide +kernel
theorem d_W_law_582 : decode code 582 = .ok (.aload_n 0, 1) := by decide +kernel
theorem d_W_law_583 : decode code 583 = .ok (.iload_n 3, 1) := by decide +kernel
theorem d_W_law_584 : decode code 584 = .ok (.iconst 2, 1) := by decide +kernel
theorem d_W_law_585 : decode code 585 = .ok (.iadd, 1) := by decide +kernel
theorem d_W_law_586 : decode code 586 = .ok (.iaload, 1) := by decide +kernel
theorem d_W_law_587 : decode code 587 = .ok (.invokevirtual 78, 3) := by decide +kernel
theorem d_W_law_590 : decode code 590 = .ok (.if_icmp .eq 137, 3) := by decide +kernel
theorem d_W_law_593 : decode code 593 = .ok (.iconst 0, 1) := by decide +kernel
theorem d_W_law_594 : decode code 594 = .ok (.ireturn, 1) := by decide +kernel
theorem d_W_law_595 : decode code 595 = .ok (.aload_n 1, 1) := by decide +kernel
theorem d_W_law_596 : decode code 596 = .ok (.aload_n 0, 1) := by decide +kernel
theorem d_W_law_597 : decode code 597 = .ok (.iload_n 3, 1) := by decide +kernel
theorem d_W_law_598 : decode code 598 = .ok (.iconst 1, 1) := by decide +kernel
theorem d_W_law_599 : decode code 599 = .ok (.iadd, 1) := by decide +kernel
theorem d_W_law_600 : decode code 600 = .ok (.iaload, 1) := by decide +kernel
theorem d_W_law_601 : decode code 601 = .ok (.aload_n 0, 1) := by decide +kernel
theorem d_W_law_602 : decode code 602 = .ok (.iload_n 3, 1) := by decide +kernel
theorem d_W_law_603 : decode code 603 = .ok (.iconst 2, 1) := by decide +kernel
theorem d_W_law_604 : decode code 604 = .ok (.iadd, 1) := by decide +kernel
theorem d_W_law_605 : decode code 605 = .ok (.iaload, 1) := by decide +kernel
theorem d_W_law_606 : decode code 606 = .ok (.aload_n 0, 1) := by decide +kernel
theorem d_W_law_607 : decode code 607 = .ok (.iload_n 3, 1) := by decide +kernel
theorem d_W_law_608 : decode code 608 = .ok (.iconst 3, 1) := by decide +kernel
theorem d_W_law_609 : decode code 609 = .ok (.iadd, 1) := by decide +kernel
theorem d_W_law_610 : decode code 610 = .ok (.iaload, 1) := by decide +kernel
theorem d_W_law_611 : decode code 611 = .ok (.invokevirtual 79, 3) := by decide +kernel
theorem d_W_law_614 : decode code 614 = .ok (.aload_n 2, 1) := by decide +kernel
theorem d_W_law_615 : decode code 615 = .ok (.aload_n 0, 1) := by decide +kernel
theorem d_W_law_616 : decode code 616 = .ok (.iload_n 3, 1) := by decide +kernel
theorem d_W_law_617 : decode code 617 = .ok (.iconst 1, 1) := by decide +kernel
theorem d_W_law_618 : decode code 618 = .ok (.iadd, 1) := by decide +kernel
theorem d_W_law_619 : decode code 619 = .ok (.iaload, 1) := by decide +kernel
theorem d_W_law_620 : decode code 620 = .ok (.aload_n 0, 1) := by decide +kernel
theorem d_W_law_621 : decode code 621 = .ok (.iload_n 3, 1) := by decide +kernel
theorem d_W_law_622 : decode code 622 = .ok (.iconst 2, 1) := by decide +kernel
theorem d_W_law_623 : decode code 623 = .ok (.iadd, 1) := by decide +kernel
theorem d_W_law_624 : decode code 624 = .ok (.iaload, 1) := by decide +kernel
theorem d_W_law_625 : decode code 625 = .ok (.aload_n 0, 1) := by decide +kernel
theorem d_W_law_626 : decode code 626 = .ok (.iload_n 3, 1) := by decide +kernel
theorem d_W_law_627 : decode code 627 = .ok (.iconst 3, 1) := by decide +kernel
theorem d_W_law_628 : decode code 628 = .ok (.iadd, 1) := by decide +kernel
theorem d_W_law_629 : decode code 629 = .ok (.iaload, 1) := by decide +kernel
theorem d_W_law_630 : decode code 630 = .ok (.invokevirtual 82, 3) := by decide +kernel
theorem d_W_law_633 : decode code 633 = .ok (.if_icmp .eq 94, 3) := by decide +kernel
theorem d_W_law_636 : decode code 636 = .ok (.iconst 0, 1) := by decide +kernel
theorem d_W_law_637 : decode code 637 = .ok (.ireturn, 1) := by decide +kernel
theorem d_W_law_638 : decode code 638 = .ok (.aload_n 1, 1) := by decide +kernel
theorem d_W_law_639 : decode code 639 = .ok (.aload_n 0, 1) := by decide +kernel
theorem d_W_law_640 : decode code 640 = .ok (.iload_n 3, 1) := by decide +kernel
theorem d_W_law_641 : decode code 641 = .ok (.iconst 1, 1) := by decide +kernel
theorem d_W_law_642 : decode code 642 = .ok (.iadd, 1) := by decide +kernel
theorem d_W_law_643 : decode code 643 = .ok (.iaload, 1) := by decide +kernel
theorem d_W_law_644 : decode code 644 = .ok (.aload_n 0, 1) := by decide +kernel
theorem d_W_law_645 : decode code 645 = .ok (.iload_n 3, 1) := by decide +kernel
theorem d_W_law_646 : decode code 646 = .ok (.iconst 2, 1) := by decide +kernel
theorem d_W_law_647 : decode code 647 = .ok (.iadd, 1) := by decide +kernel
theorem d_W_law_648 : decode code 648 = .ok (.iaload, 1) := by decide +kernel
theorem d_W_law_649 : decode code 649 = .ok (.invokevirtual 83, 3) := by decide +kernel
theorem d_W_law_652 : decode code 652 = .ok (.aload_n 2, 1) := by decide +kernel
theorem d_W_law_653 : decode code 653 = .ok (.aload_n 0, 1) := by decide +kernel
theorem d_W_law_654 : decode code 654 = .ok (.iload_n 3, 1) := by decide +kernel
theorem d_W_law_655 : decode code 655 = .ok (.iconst 1, 1) := by decide +kernel
theorem d_W_law_656 : decode code 656 = .ok (.iadd, 1) := by decide +kernel
theorem d_W_law_657 : decode code 657 = .ok (.iaload, 1) := by decide +kernel
theorem d_W_law_658 : decode code 658 = .ok (.aload_n 0, 1) := by decide +kernel
theorem d_W_law_659 : decode code 659 = .ok (.iload_n 3, 1) := by decide +kernel
theorem d_W_law_660 : decode code 660 = .ok (.iconst 2, 1) := by decide +kernel
theorem d_W_law_661 : decode code 661 = .ok (.iadd, 1) := by decide +kernel
theorem d_W_law_662 : decode code 662 = .ok (.iaload, 1) := by decide +kernel
theorem d_W_law_663 : decode code 663 = .ok (.invokevirtual 86, 3) := by decide +kernel
theorem d_W_law_666 : decode code 666 = .ok (.if_icmp .eq 61, 3) := by decide +kernel
theorem d_W_law_669 : decode code 669 = .ok (.iconst 0, 1) := by decide +kernel
theorem d_W_law_670 : decode code 670 = .ok (.ireturn, 1) := by decide +kernel
theorem d_W_law_671 : decode code 671 = .ok (.aload_n 1, 1) := by decide +kernel
theorem d_W_law_672 : decode code 672 = .ok (.aload_n 0, 1) := by decide +kernel
theorem d_W_law_673 : decode code 673 = .ok (.iload_n 3, 1) := by decide +kernel
theorem d_W_law_674 : decode code 674 = .ok (.iconst 1, 1) := by decide +kernel
theorem d_W_law_675 : decode code 675 = .ok (.iadd, 1) := by decide +kernel
theorem d_W_law_676 : decode code 676 = .ok (.iaload, 1) := by decide +kernel
theorem d_W_law_677 : decode code 677 = .ok (.aload_n 0, 1) := by decide +kernel
theorem d_W_law_678 : decode code 678 = .ok (.iload_n 3, 1) := by decide +kernel
theorem d_W_law_679 : decode code 679 = .ok (.iconst 2, 1) := by decide +kernel
theorem d_W_law_680 : decode code 680 = .ok (.iadd, 1) := by decide +kernel
theorem d_W_law_681 : decode code 681 = .ok (.iaload, 1) := by decide +kernel
theorem d_W_law_682 : decode code 682 = .ok (.invokevirtual 87, 3) := by decide +kernel
theorem d_W_law_685 : decode code 685 = .ok (.aload_n 2, 1) := by decide +kernel
theorem d_W_law_686 : decode code 686 = .ok (.aload_n 0, 1) := by decide +kernel
theorem d_W_law_687 : decode code 687 = .ok (.iload_n 3, 1) := by decide +kernel
theorem d_W_law_688 : decode code 688 = .ok (.iconst 1, 1) := by decide +kernel
theorem d_W_law_689 : decode code 689 = .ok (.iadd, 1) := by decide +kernel
theorem d_W_law_690 : decode code 690 = .ok (.iaload, 1) := by decide +kernel
theorem d_W_law_691 : decode code 691 = .ok (.aload_n 0, 1) := by decide +kernel
theorem d_W_law_692 : decode code 692 = .ok (.iload_n 3, 1) := by decide +kernel
theorem d_W_law_693 : decode code 693 = .ok (.iconst 2, 1) := by decide +kernel
theorem d_W_law_694 : decode code 694 = .ok (.iadd, 1) := by decide +kernel
theorem d_W_law_695 : decode code 695 = .ok (.iaload, 1) := by decide +kernel
theorem d_W_law_696 : decode code 696 = .ok (.invokevirtual 90, 3) := by decide +kernel
theorem d_W_law_699 : decode code 699 = .ok (.if_icmp .eq 28, 3) := by decide +kernel
theorem d_W_law_702 : decode code 702 = .ok (.iconst 0, 1) := by decide +kernel
theorem d_W_law_703 : decode code 703 = .ok (.ireturn, 1) := by decide +kernel
theorem d_W_law_704 : decode code 704 = .ok (.aload_n 1, 1) := by decide +kernel
theorem d_W_law_705 : decode code 705 = .ok (.aload_n 0, 1) := by decide +kernel
theorem d_W_law_706 : decode code 706 = .ok (.iload_n 3, 1) := by decide +kernel
theorem d_W_law_707 : decode code 707 = .ok (.iconst 1, 1) := by decide +kernel
theorem d_W_law_708 : decode code 708 = .ok (.iadd, 1) := by decide +kernel
theorem d_W_law_709 : decode code 709 = .ok (.iaload, 1) := by decide +kernel
theorem d_W_law_710 : decode code 710 = .ok (.invokevirtual 91, 3) := by decide +kernel
theorem d_W_law_713 : decode code 713 = .ok (.aload_n 2, 1) := by decide +kernel
theorem d_W_law_714 : decode code 714 = .ok (.aload_n 0, 1) := by decide +kernel
theorem d_W_law_715 : decode code 715 = .ok (.iload_n 3, 1) := by decide +kernel
theorem d_W_law_716 : decode code 716 = .ok (.iconst 1, 1) := by decide +kernel
theorem d_W_law_717 : decode code 717 = .ok (.iadd, 1) := by decide +kernel
theorem d_W_law_718 : decode code 718 = .ok (.iaload, 1) := by decide +kernel
theorem d_W_law_719 : decode code 719 = .ok (.invokevirtual 94, 3) := by decide +kernel
theorem d_W_law_722 : decode code 722 = .ok (.if_icmp .eq 5, 3) := by decide +kernel
theorem d_W_law_725 : decode code 725 = .ok (.iconst 0, 1) := by decide +kernel
theorem d_W_law_726 : decode code 726 = .ok (.ireturn, 1) := by decide +kernel
theorem d_W_law_727 : decode code 727 = .ok (.iinc 3 5, 3) := by decide +kernel
theorem d_W_law_730 : decode code 730 = .ok (.goto (-712), 3) := by decide +kernel
theorem d_W_law_733 : decode code 733 = .ok (.iconst 1, 1) := by decide +kernel
theorem d_W_law_734 : decode code 734 = .ok (.ireturn, 1) := by decide +kernel
