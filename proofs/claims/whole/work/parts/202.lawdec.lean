theorem dL_0 : decode code 0 = .ok (.new 7, 3) := by decide +kernel
theorem dL_3 : decode code 3 = .ok (.dup, 1) := by decide +kernel
theorem dL_4 : decode code 4 = .ok (.invokespecial 9, 3) := by decide +kernel
theorem dL_7 : decode code 7 = .ok (.astore_n 1, 1) := by decide +kernel
theorem dL_8 : decode code 8 = .ok (.new 10, 3) := by decide +kernel
theorem dL_11 : decode code 11 = .ok (.dup, 1) := by decide +kernel
theorem dL_12 : decode code 12 = .ok (.invokespecial 12, 3) := by decide +kernel
theorem dL_15 : decode code 15 = .ok (.astore_n 2, 1) := by decide +kernel
theorem dL_16 : decode code 16 = .ok (.iconst 0, 1) := by decide +kernel
theorem dL_17 : decode code 17 = .ok (.istore_n 3, 1) := by decide +kernel
theorem dL_18 : decode code 18 = .ok (.iload_n 3, 1) := by decide +kernel
theorem dL_19 : decode code 19 = .ok (.aload_n 0, 1) := by decide +kernel
theorem dL_20 : decode code 20 = .ok (.arraylength, 1) := by decide +kernel
theorem dL_21 : decode code 21 = .ok (.bipush 7, 2) := by decide +kernel
theorem dL_23 : decode code 23 = .ok (.isub, 1) := by decide +kernel
theorem dL_24 : decode code 24 = .ok (.if_icmp .gt 1154, 3) := by decide +kernel
theorem dL_27 : decode code 27 = .ok (.aload_n 0, 1) := by decide +kernel
theorem dL_28 : decode code 28 = .ok (.iload_n 3, 1) := by decide +kernel
theorem dL_29 : decode code 29 = .ok (.iaload, 1) := by decide +kernel
theorem dL_30 : decode code 30 = .ok (.bipush 31, 2) := by decide +kernel
theorem dL_32 : decode code 32 = .ok (.iand, 1) := by decide +kernel
theorem dL_33 : decode code 33 = .ok (.tableswitch 1139 0 25 #[119, 162, 225, 258, 301, 354, 417, 470, 513, 546, 589, 652, 675, 698, 721, 774, 807, 882, 895, 918, 941, 974, 997, 1040, 1083, 1116], 119) := by decide +kernel
theorem dL_152 : decode code 152 = .ok (.aload_n 1, 1) := by decide +kernel
theorem dL_153 : decode code 153 = .ok (.aload_n 0, 1) := by decide +kernel
theorem dL_154 : decode code 154 = .ok (.iload_n 3, 1) := by decide +kernel
theorem dL_155 : decode code 155 = .ok (.iconst 1, 1) := by decide +kernel
theorem dL_156 : decode code 156 = .ok (.iadd, 1) := by decide +kernel
theorem dL_157 : decode code 157 = .ok (.iaload, 1) := by decide +kernel
theorem dL_158 : decode code 158 = .ok (.aload_n 0, 1) := by decide +kernel
theorem dL_159 : decode code 159 = .ok (.iload_n 3, 1) := by decide +kernel
theorem dL_160 : decode code 160 = .ok (.iconst 2, 1) := by decide +kernel
theorem dL_161 : decode code 161 = .ok (.iadd, 1) := by decide +kernel
theorem dL_162 : decode code 162 = .ok (.iaload, 1) := by decide +kernel
theorem dL_163 : decode code 163 = .ok (.aload_n 0, 1) := by decide +kernel
theorem dL_164 : decode code 164 = .ok (.iload_n 3, 1) := by decide +kernel
theorem dL_165 : decode code 165 = .ok (.iconst 3, 1) := by decide +kernel
theorem dL_166 : decode code 166 = .ok (.iadd, 1) := by decide +kernel
theorem dL_167 : decode code 167 = .ok (.iaload, 1) := by decide +kernel
theorem dL_168 : decode code 168 = .ok (.invokevirtual 13, 3) := by decide +kernel
theorem dL_171 : decode code 171 = .ok (.aload_n 2, 1) := by decide +kernel
theorem dL_172 : decode code 172 = .ok (.aload_n 0, 1) := by decide +kernel
theorem dL_173 : decode code 173 = .ok (.iload_n 3, 1) := by decide +kernel
theorem dL_174 : decode code 174 = .ok (.iconst 1, 1) := by decide +kernel
theorem dL_175 : decode code 175 = .ok (.iadd, 1) := by decide +kernel
theorem dL_176 : decode code 176 = .ok (.iaload, 1) := by decide +kernel
theorem dL_177 : decode code 177 = .ok (.aload_n 0, 1) := by decide +kernel
theorem dL_178 : decode code 178 = .ok (.iload_n 3, 1) := by decide +kernel
theorem dL_179 : decode code 179 = .ok (.iconst 2, 1) := by decide +kernel
theorem dL_180 : decode code 180 = .ok (.iadd, 1) := by decide +kernel
theorem dL_181 : decode code 181 = .ok (.iaload, 1) := by decide +kernel
theorem dL_182 : decode code 182 = .ok (.aload_n 0, 1) := by decide +kernel
theorem dL_183 : decode code 183 = .ok (.iload_n 3, 1) := by decide +kernel
theorem dL_184 : decode code 184 = .ok (.iconst 3, 1) := by decide +kernel
theorem dL_185 : decode code 185 = .ok (.iadd, 1) := by decide +kernel
theorem dL_186 : decode code 186 = .ok (.iaload, 1) := by decide +kernel
theorem dL_187 : decode code 187 = .ok (.invokevirtual 17, 3) := by decide +kernel
theorem dL_190 : decode code 190 = .ok (.if_icmp .eq 982, 3) := by decide +kernel
theorem dL_193 : decode code 193 = .ok (.iconst 0, 1) := by decide +kernel
theorem dL_194 : decode code 194 = .ok (.ireturn, 1) := by decide +kernel
theorem dL_195 : decode code 195 = .ok (.aload_n 1, 1) := by decide +kernel
theorem dL_196 : decode code 196 = .ok (.aload_n 0, 1) := by decide +kernel
theorem dL_197 : decode code 197 = .ok (.iload_n 3, 1) := by decide +kernel
theorem dL_198 : decode code 198 = .ok (.iconst 1, 1) := by decide +kernel
theorem dL_199 : decode code 199 = .ok (.iadd, 1) := by decide +kernel
theorem dL_200 : decode code 200 = .ok (.iaload, 1) := by decide +kernel
theorem dL_201 : decode code 201 = .ok (.aload_n 0, 1) := by decide +kernel
theorem dL_202 : decode code 202 = .ok (.iload_n 3, 1) := by decide +kernel
theorem dL_203 : decode code 203 = .ok (.iconst 2, 1) := by decide +kernel
theorem dL_204 : decode code 204 = .ok (.iadd, 1) := by decide +kernel
theorem dL_205 : decode code 205 = .ok (.iaload, 1) := by decide +kernel
theorem dL_206 : decode code 206 = .ok (.aload_n 0, 1) := by decide +kernel
theorem dL_207 : decode code 207 = .ok (.iload_n 3, 1) := by decide +kernel
theorem dL_208 : decode code 208 = .ok (.iconst 3, 1) := by decide +kernel
theorem dL_209 : decode code 209 = .ok (.iadd, 1) := by decide +kernel
theorem dL_210 : decode code 210 = .ok (.iaload, 1) := by decide +kernel
theorem dL_211 : decode code 211 = .ok (.aload_n 0, 1) := by decide +kernel
theorem dL_212 : decode code 212 = .ok (.iload_n 3, 1) := by decide +kernel
theorem dL_213 : decode code 213 = .ok (.iconst 4, 1) := by decide +kernel
theorem dL_214 : decode code 214 = .ok (.iadd, 1) := by decide +kernel
theorem dL_215 : decode code 215 = .ok (.iaload, 1) := by decide +kernel
theorem dL_216 : decode code 216 = .ok (.aload_n 0, 1) := by decide +kernel
theorem dL_217 : decode code 217 = .ok (.iload_n 3, 1) := by decide +kernel
theorem dL_218 : decode code 218 = .ok (.iconst 5, 1) := by decide +kernel
theorem dL_219 : decode code 219 = .ok (.iadd, 1) := by decide +kernel
theorem dL_220 : decode code 220 = .ok (.iaload, 1) := by decide +kernel
theorem dL_221 : decode code 221 = .ok (.invokevirtual 18, 3) := by decide +kernel
theorem dL_224 : decode code 224 = .ok (.aload_n 2, 1) := by decide +kernel
theorem dL_225 : decode code 225 = .ok (.aload_n 0, 1) := by decide +kernel
theorem dL_226 : decode code 226 = .ok (.iload_n 3, 1) := by decide +kernel
theorem dL_227 : decode code 227 = .ok (.iconst 1, 1) := by decide +kernel
theorem dL_228 : decode code 228 = .ok (.iadd, 1) := by decide +kernel
theorem dL_229 : decode code 229 = .ok (.iaload, 1) := by decide +kernel
theorem dL_230 : decode code 230 = .ok (.aload_n 0, 1) := by decide +kernel
theorem dL_231 : decode code 231 = .ok (.iload_n 3, 1) := by decide +kernel
theorem dL_232 : decode code 232 = .ok (.iconst 2, 1) := by decide +kernel
theorem dL_233 : decode code 233 = .ok (.iadd, 1) := by decide +kernel
theorem dL_234 : decode code 234 = .ok (.iaload, 1) := by decide +kernel
theorem dL_235 : decode code 235 = .ok (.aload_n 0, 1) := by decide +kernel
theorem dL_236 : decode code 236 = .ok (.iload_n 3, 1) := by decide +kernel
theorem dL_237 : decode code 237 = .ok (.iconst 3, 1) := by decide +kernel
theorem dL_238 : decode code 238 = .ok (.iadd, 1) := by decide +kernel
theorem dL_239 : decode code 239 = .ok (.iaload, 1) := by decide +kernel
theorem dL_240 : decode code 240 = .ok (.aload_n 0, 1) := by decide +kernel
theorem dL_241 : decode code 241 = .ok (.iload_n 3, 1) := by decide +kernel
theorem dL_242 : decode code 242 = .ok (.iconst 4, 1) := by decide +kernel
theorem dL_243 : decode code 243 = .ok (.iadd, 1) := by decide +kernel
theorem dL_244 : decode code 244 = .ok (.iaload, 1) := by decide +kernel
theorem dL_245 : decode code 245 = .ok (.aload_n 0, 1) := by decide +kernel
theorem dL_246 : decode code 246 = .ok (.iload_n 3, 1) := by decide +kernel
theorem dL_247 : decode code 247 = .ok (.iconst 5, 1) := by decide +kernel
theorem dL_248 : decode code 248 = .ok (.iadd, 1) := by decide +kernel
theorem dL_249 : decode code 249 = .ok (.iaload, 1) := by decide +kernel
theorem dL_250 : decode code 250 = .ok (.invokevirtual 22, 3) := by decide +kernel
theorem dL_253 : decode code 253 = .ok (.if_icmp .eq 919, 3) := by decide +kernel
theorem dL_256 : decode code 256 = .ok (.iconst 0, 1) := by decide +kernel
theorem dL_257 : decode code 257 = .ok (.ireturn, 1) := by decide +kernel
theorem dL_258 : decode code 258 = .ok (.aload_n 1, 1) := by decide +kernel
theorem dL_259 : decode code 259 = .ok (.aload_n 0, 1) := by decide +kernel
theorem dL_260 : decode code 260 = .ok (.iload_n 3, 1) := by decide +kernel
theorem dL_261 : decode code 261 = .ok (.iconst 1, 1) := by decide +kernel
theorem dL_262 : decode code 262 = .ok (.iadd, 1) := by decide +kernel
theorem dL_263 : decode code 263 = .ok (.iaload, 1) := by decide +kernel
theorem dL_264 : decode code 264 = .ok (.aload_n 0, 1) := by decide +kernel
theorem dL_265 : decode code 265 = .ok (.iload_n 3, 1) := by decide +kernel
theorem dL_266 : decode code 266 = .ok (.iconst 2, 1) := by decide +kernel
theorem dL_267 : decode code 267 = .ok (.iadd, 1) := by decide +kernel
theorem dL_268 : decode code 268 = .ok (.iaload, 1) := by decide +kernel
theorem dL_269 : decode code 269 = .ok (.invokevirtual 23, 3) := by decide +kernel
theorem dL_272 : decode code 272 = .ok (.aload_n 2, 1) := by decide +kernel
theorem dL_273 : decode code 273 = .ok (.aload_n 0, 1) := by decide +kernel
theorem dL_274 : decode code 274 = .ok (.iload_n 3, 1) := by decide +kernel
theorem dL_275 : decode code 275 = .ok (.iconst 1, 1) := by decide +kernel
theorem dL_276 : decode code 276 = .ok (.iadd, 1) := by decide +kernel
theorem dL_277 : decode code 277 = .ok (.iaload, 1) := by decide +kernel
theorem dL_278 : decode code 278 = .ok (.aload_n 0, 1) := by decide +kernel
theorem dL_279 : decode code 279 = .ok (.iload_n 3, 1) := by decide +kernel
theorem dL_280 : decode code 280 = .ok (.iconst 2, 1) := by decide +kernel
theorem dL_281 : decode code 281 = .ok (.iadd, 1) := by decide +kernel
theorem dL_282 : decode code 282 = .ok (.iaload, 1) := by decide +kernel
theorem dL_283 : decode code 283 = .ok (.invokevirtual 27, 3) := by decide +kernel
theorem dL_286 : decode code 286 = .ok (.if_icmp .eq 886, 3) := by decide +kernel
theorem dL_289 : decode code 289 = .ok (.iconst 0, 1) := by decide +kernel
theorem dL_290 : decode code 290 = .ok (.ireturn, 1) := by decide +kernel
theorem dL_291 : decode code 291 = .ok (.aload_n 1, 1) := by decide +kernel
theorem dL_292 : decode code 292 = .ok (.aload_n 0, 1) := by decide +kernel
theorem dL_293 : decode code 293 = .ok (.iload_n 3, 1) := by decide +kernel
theorem dL_294 : decode code 294 = .ok (.iconst 1, 1) := by decide +kernel
theorem dL_295 : decode code 295 = .ok (.iadd, 1) := by decide +kernel
theorem dL_296 : decode code 296 = .ok (.iaload, 1) := by decide +kernel
theorem dL_297 : decode code 297 = .ok (.aload_n 0, 1) := by decide +kernel
theorem dL_298 : decode code 298 = .ok (.iload_n 3, 1) := by decide +kernel
theorem dL_299 : decode code 299 = .ok (.iconst 2, 1) := by decide +kernel
theorem dL_300 : decode code 300 = .ok (.iadd, 1) := by decide +kernel
theorem dL_301 : decode code 301 = .ok (.iaload, 1) := by decide +kernel
theorem dL_302 : decode code 302 = .ok (.aload_n 0, 1) := by decide +kernel
theorem dL_303 : decode code 303 = .ok (.iload_n 3, 1) := by decide +kernel
theorem dL_304 : decode code 304 = .ok (.iconst 3, 1) := by decide +kernel
theorem dL_305 : decode code 305 = .ok (.iadd, 1) := by decide +kernel
theorem dL_306 : decode code 306 = .ok (.iaload, 1) := by decide +kernel
theorem dL_307 : decode code 307 = .ok (.invokevirtual 28, 3) := by decide +kernel
theorem dL_310 : decode code 310 = .ok (.aload_n 2, 1) := by decide +kernel
theorem dL_311 : decode code 311 = .ok (.aload_n 0, 1) := by decide +kernel
theorem dL_312 : decode code 312 = .ok (.iload_n 3, 1) := by decide +kernel
theorem dL_313 : decode code 313 = .ok (.iconst 1, 1) := by decide +kernel
theorem dL_314 : decode code 314 = .ok (.iadd, 1) := by decide +kernel
theorem dL_315 : decode code 315 = .ok (.iaload, 1) := by decide +kernel
theorem dL_316 : decode code 316 = .ok (.aload_n 0, 1) := by decide +kernel
theorem dL_317 : decode code 317 = .ok (.iload_n 3, 1) := by decide +kernel
theorem dL_318 : decode code 318 = .ok (.iconst 2, 1) := by decide +kernel
theorem dL_319 : decode code 319 = .ok (.iadd, 1) := by decide +kernel
theorem dL_320 : decode code 320 = .ok (.iaload, 1) := by decide +kernel
theorem dL_321 : decode code 321 = .ok (.aload_n 0, 1) := by decide +kernel
theorem dL_322 : decode code 322 = .ok (.iload_n 3, 1) := by decide +kernel
theorem dL_323 : decode code 323 = .ok (.iconst 3, 1) := by decide +kernel
theorem dL_324 : decode code 324 = .ok (.iadd, 1) := by decide +kernel
theorem dL_325 : decode code 325 = .ok (.iaload, 1) := by decide +kernel
theorem dL_326 : decode code 326 = .ok (.invokevirtual 31, 3) := by decide +kernel
theorem dL_329 : decode code 329 = .ok (.if_icmp .eq 843, 3) := by decide +kernel
theorem dL_332 : decode code 332 = .ok (.iconst 0, 1) := by decide +kernel
theorem dL_333 : decode code 333 = .ok (.ireturn, 1) := by decide +kernel
theorem dL_334 : decode code 334 = .ok (.aload_n 1, 1) := by decide +kernel
theorem dL_335 : decode code 335 = .ok (.aload_n 0, 1) := by decide +kernel
theorem dL_336 : decode code 336 = .ok (.iload_n 3, 1) := by decide +kernel
theorem dL_337 : decode code 337 = .ok (.iconst 1, 1) := by decide +kernel
theorem dL_338 : decode code 338 = .ok (.iadd, 1) := by decide +kernel
theorem dL_339 : decode code 339 = .ok (.iaload, 1) := by decide +kernel
theorem dL_340 : decode code 340 = .ok (.aload_n 0, 1) := by decide +kernel
theorem dL_341 : decode code 341 = .ok (.iload_n 3, 1) := by decide +kernel
theorem dL_342 : decode code 342 = .ok (.iconst 2, 1) := by decide +kernel
theorem dL_343 : decode code 343 = .ok (.iadd, 1) := by decide +kernel
theorem dL_344 : decode code 344 = .ok (.iaload, 1) := by decide +kernel
theorem dL_345 : decode code 345 = .ok (.aload_n 0, 1) := by decide +kernel
theorem dL_346 : decode code 346 = .ok (.iload_n 3, 1) := by decide +kernel
theorem dL_347 : decode code 347 = .ok (.iconst 3, 1) := by decide +kernel
theorem dL_348 : decode code 348 = .ok (.iadd, 1) := by decide +kernel
theorem dL_349 : decode code 349 = .ok (.iaload, 1) := by decide +kernel
theorem dL_350 : decode code 350 = .ok (.aload_n 0, 1) := by decide +kernel
theorem dL_351 : decode code 351 = .ok (.iload_n 3, 1) := by decide +kernel
theorem dL_352 : decode code 352 = .ok (.iconst 4, 1) := by decide +kernel
theorem dL_353 : decode code 353 = .ok (.iadd, 1) := by decide +kernel
theorem dL_354 : decode code 354 = .ok (.iaload, 1) := by decide +kernel
theorem dL_355 : decode code 355 = .ok (.invokevirtual 32, 3) := by decide +kernel
theorem dL_358 : decode code 358 = .ok (.aload_n 2, 1) := by decide +kernel
theorem dL_359 : decode code 359 = .ok (.aload_n 0, 1) := by decide +kernel
theorem dL_360 : decode code 360 = .ok (.iload_n 3, 1) := by decide +kernel
theorem dL_361 : decode code 361 = .ok (.iconst 1, 1) := by decide +kernel
theorem dL_362 : decode code 362 = .ok (.iadd, 1) := by decide +kernel
theorem dL_363 : decode code 363 = .ok (.iaload, 1) := by decide +kernel
theorem dL_364 : decode code 364 = .ok (.aload_n 0, 1) := by decide +kernel
theorem dL_365 : decode code 365 = .ok (.iload_n 3, 1) := by decide +kernel
theorem dL_366 : decode code 366 = .ok (.iconst 2, 1) := by decide +kernel
theorem dL_367 : decode code 367 = .ok (.iadd, 1) := by decide +kernel
theorem dL_368 : decode code 368 = .ok (.iaload, 1) := by decide +kernel
theorem dL_369 : decode code 369 = .ok (.aload_n 0, 1) := by decide +kernel
theorem dL_370 : decode code 370 = .ok (.iload_n 3, 1) := by decide +kernel
theorem dL_371 : decode code 371 = .ok (.iconst 3, 1) := by decide +kernel
theorem dL_372 : decode code 372 = .ok (.iadd, 1) := by decide +kernel
theorem dL_373 : decode code 373 = .ok (.iaload, 1) := by decide +kernel
theorem dL_374 : decode code 374 = .ok (.aload_n 0, 1) := by decide +kernel
theorem dL_375 : decode code 375 = .ok (.iload_n 3, 1) := by decide +kernel
theorem dL_376 : decode code 376 = .ok (.iconst 4, 1) := by decide +kernel
theorem dL_377 : decode code 377 = .ok (.iadd, 1) := by decide +kernel
theorem dL_378 : decode code 378 = .ok (.iaload, 1) := by decide +kernel
theorem dL_379 : decode code 379 = .ok (.invokevirtual 36, 3) := by decide +kernel
theorem dL_382 : decode code 382 = .ok (.if_icmp .eq 790, 3) := by decide +kernel
theorem dL_385 : decode code 385 = .ok (.iconst 0, 1) := by decide +kernel
theorem dL_386 : decode code 386 = .ok (.ireturn, 1) := by decide +kernel
theorem dL_387 : decode code 387 = .ok (.aload_n 1, 1) := by decide +kernel
theorem dL_388 : decode code 388 = .ok (.aload_n 0, 1) := by decide +kernel
theorem dL_389 : decode code 389 = .ok (.iload_n 3, 1) := by decide +kernel
theorem dL_390 : decode code 390 = .ok (.iconst 1, 1) := by decide +kernel
theorem dL_391 : decode code 391 = .ok (.iadd, 1) := by decide +kernel
theorem dL_392 : decode code 392 = .ok (.iaload, 1) := by decide +kernel
theorem dL_393 : decode code 393 = .ok (.aload_n 0, 1) := by decide +kernel
theorem dL_394 : decode code 394 = .ok (.iload_n 3, 1) := by decide +kernel
theorem dL_395 : decode code 395 = .ok (.iconst 2, 1) := by decide +kernel
theorem dL_396 : decode code 396 = .ok (.iadd, 1) := by decide +kernel
theorem dL_397 : decode code 397 = .ok (.iaload, 1) := by decide +kernel
theorem dL_398 : decode code 398 = .ok (.aload_n 0, 1) := by decide +kernel
theorem dL_399 : decode code 399 = .ok (.iload_n 3, 1) := by decide +kernel
theorem dL_400 : decode code 400 = .ok (.iconst 3, 1) := by decide +kernel
theorem dL_401 : decode code 401 = .ok (.iadd, 1) := by decide +kernel
theorem dL_402 : decode code 402 = .ok (.iaload, 1) := by decide +kernel
theorem dL_403 : decode code 403 = .ok (.aload_n 0, 1) := by decide +kernel
theorem dL_404 : decode code 404 = .ok (.iload_n 3, 1) := by decide +kernel
theorem dL_405 : decode code 405 = .ok (.iconst 4, 1) := by decide +kernel
theorem dL_406 : decode code 406 = .ok (.iadd, 1) := by decide +kernel
theorem dL_407 : decode code 407 = .ok (.iaload, 1) := by decide +kernel
theorem dL_408 : decode code 408 = .ok (.aload_n 0, 1) := by decide +kernel
theorem dL_409 : decode code 409 = .ok (.iload_n 3, 1) := by decide +kernel
theorem dL_410 : decode code 410 = .ok (.iconst 5, 1) := by decide +kernel
theorem dL_411 : decode code 411 = .ok (.iadd, 1) := by decide +kernel
theorem dL_412 : decode code 412 = .ok (.iaload, 1) := by decide +kernel
theorem dL_413 : decode code 413 = .ok (.invokevirtual 37, 3) := by decide +kernel
theorem dL_416 : decode code 416 = .ok (.aload_n 2, 1) := by decide +kernel
theorem dL_417 : decode code 417 = .ok (.aload_n 0, 1) := by decide +kernel
theorem dL_418 : decode code 418 = .ok (.iload_n 3, 1) := by decide +kernel
theorem dL_419 : decode code 419 = .ok (.iconst 1, 1) := by decide +kernel
theorem dL_420 : decode code 420 = .ok (.iadd, 1) := by decide +kernel
theorem dL_421 : decode code 421 = .ok (.iaload, 1) := by decide +kernel
theorem dL_422 : decode code 422 = .ok (.aload_n 0, 1) := by decide +kernel
theorem dL_423 : decode code 423 = .ok (.iload_n 3, 1) := by decide +kernel
theorem dL_424 : decode code 424 = .ok (.iconst 2, 1) := by decide +kernel
theorem dL_425 : decode code 425 = .ok (.iadd, 1) := by decide +kernel
theorem dL_426 : decode code 426 = .ok (.iaload, 1) := by decide +kernel
theorem dL_427 : decode code 427 = .ok (.aload_n 0, 1) := by decide +kernel
theorem dL_428 : decode code 428 = .ok (.iload_n 3, 1) := by decide +kernel
theorem dL_429 : decode code 429 = .ok (.iconst 3, 1) := by decide +kernel
theorem dL_430 : decode code 430 = .ok (.iadd, 1) := by decide +kernel
theorem dL_431 : decode code 431 = .ok (.iaload, 1) := by decide +kernel
theorem dL_432 : decode code 432 = .ok (.aload_n 0, 1) := by decide +kernel
theorem dL_433 : decode code 433 = .ok (.iload_n 3, 1) := by decide +kernel
theorem dL_434 : decode code 434 = .ok (.iconst 4, 1) := by decide +kernel
theorem dL_435 : decode code 435 = .ok (.iadd, 1) := by decide +kernel
theorem dL_436 : decode code 436 = .ok (.iaload, 1) := by decide +kernel
theorem dL_437 : decode code 437 = .ok (.aload_n 0, 1) := by decide +kernel
theorem dL_438 : decode code 438 = .ok (.iload_n 3, 1) := by decide +kernel
theorem dL_439 : decode code 439 = .ok (.iconst 5, 1) := by decide +kernel
theorem dL_440 : decode code 440 = .ok (.iadd, 1) := by decide +kernel
theorem dL_441 : decode code 441 = .ok (.iaload, 1) := by decide +kernel
theorem dL_442 : decode code 442 = .ok (.invokevirtual 40, 3) := by decide +kernel
theorem dL_445 : decode code 445 = .ok (.if_icmp .eq 727, 3) := by decide +kernel
theorem dL_448 : decode code 448 = .ok (.iconst 0, 1) := by decide +kernel
theorem dL_449 : decode code 449 = .ok (.ireturn, 1) := by decide +kernel
theorem dL_450 : decode code 450 = .ok (.aload_n 1, 1) := by decide +kernel
theorem dL_451 : decode code 451 = .ok (.aload_n 0, 1) := by decide +kernel
theorem dL_452 : decode code 452 = .ok (.iload_n 3, 1) := by decide +kernel
theorem dL_453 : decode code 453 = .ok (.iconst 1, 1) := by decide +kernel
theorem dL_454 : decode code 454 = .ok (.iadd, 1) := by decide +kernel
theorem dL_455 : decode code 455 = .ok (.iaload, 1) := by decide +kernel
theorem dL_456 : decode code 456 = .ok (.aload_n 0, 1) := by decide +kernel
theorem dL_457 : decode code 457 = .ok (.iload_n 3, 1) := by decide +kernel
theorem dL_458 : decode code 458 = .ok (.iconst 2, 1) := by decide +kernel
theorem dL_459 : decode code 459 = .ok (.iadd, 1) := by decide +kernel
theorem dL_460 : decode code 460 = .ok (.iaload, 1) := by decide +kernel
theorem dL_461 : decode code 461 = .ok (.aload_n 0, 1) := by decide +kernel
theorem dL_462 : decode code 462 = .ok (.iload_n 3, 1) := by decide +kernel
theorem dL_463 : decode code 463 = .ok (.iconst 3, 1) := by decide +kernel
theorem dL_464 : decode code 464 = .ok (.iadd, 1) := by decide +kernel
theorem dL_465 : decode code 465 = .ok (.iaload, 1) := by decide +kernel
theorem dL_466 : decode code 466 = .ok (.aload_n 0, 1) := by decide +kernel
theorem dL_467 : decode code 467 = .ok (.iload_n 3, 1) := by decide +kernel
theorem dL_468 : decode code 468 = .ok (.iconst 4, 1) := by decide +kernel
theorem dL_469 : decode code 469 = .ok (.iadd, 1) := by decide +kernel
theorem dL_470 : decode code 470 = .ok (.iaload, 1) := by decide +kernel
theorem dL_471 : decode code 471 = .ok (.invokevirtual 41, 3) := by decide +kernel
theorem dL_474 : decode code 474 = .ok (.aload_n 2, 1) := by decide +kernel
theorem dL_475 : decode code 475 = .ok (.aload_n 0, 1) := by decide +kernel
theorem dL_476 : decode code 476 = .ok (.iload_n 3, 1) := by decide +kernel
theorem dL_477 : decode code 477 = .ok (.iconst 1, 1) := by decide +kernel
theorem dL_478 : decode code 478 = .ok (.iadd, 1) := by decide +kernel
theorem dL_479 : decode code 479 = .ok (.iaload, 1) := by decide +kernel
theorem dL_480 : decode code 480 = .ok (.aload_n 0, 1) := by decide +kernel
theorem dL_481 : decode code 481 = .ok (.iload_n 3, 1) := by decide +kernel
theorem dL_482 : decode code 482 = .ok (.iconst 2, 1) := by decide +kernel
theorem dL_483 : decode code 483 = .ok (.iadd, 1) := by decide +kernel
theorem dL_484 : decode code 484 = .ok (.iaload, 1) := by decide +kernel
theorem dL_485 : decode code 485 = .ok (.aload_n 0, 1) := by decide +kernel
theorem dL_486 : decode code 486 = .ok (.iload_n 3, 1) := by decide +kernel
theorem dL_487 : decode code 487 = .ok (.iconst 3, 1) := by decide +kernel
theorem dL_488 : decode code 488 = .ok (.iadd, 1) := by decide +kernel
theorem dL_489 : decode code 489 = .ok (.iaload, 1) := by decide +kernel
theorem dL_490 : decode code 490 = .ok (.aload_n 0, 1) := by decide +kernel
theorem dL_491 : decode code 491 = .ok (.iload_n 3, 1) := by decide +kernel
theorem dL_492 : decode code 492 = .ok (.iconst 4, 1) := by decide +kernel
theorem dL_493 : decode code 493 = .ok (.iadd, 1) := by decide +kernel
theorem dL_494 : decode code 494 = .ok (.iaload, 1) := by decide +kernel
theorem dL_495 : decode code 495 = .ok (.invokevirtual 44, 3) := by decide +kernel
theorem dL_498 : decode code 498 = .ok (.if_icmp .eq 674, 3) := by decide +kernel
theorem dL_501 : decode code 501 = .ok (.iconst 0, 1) := by decide +kernel
theorem dL_502 : decode code 502 = .ok (.ireturn, 1) := by decide +kernel
theorem dL_503 : decode code 503 = .ok (.aload_n 1, 1) := by decide +kernel
theorem dL_504 : decode code 504 = .ok (.aload_n 0, 1) := by decide +kernel
theorem dL_505 : decode code 505 = .ok (.iload_n 3, 1) := by decide +kernel
theorem dL_506 : decode code 506 = .ok (.iconst 1, 1) := by decide +kernel
theorem dL_507 : decode code 507 = .ok (.iadd, 1) := by decide +kernel
theorem dL_508 : decode code 508 = .ok (.iaload, 1) := by decide +kernel
theorem dL_509 : decode code 509 = .ok (.aload_n 0, 1) := by decide +kernel
theorem dL_510 : decode code 510 = .ok (.iload_n 3, 1) := by decide +kernel
theorem dL_511 : decode code 511 = .ok (.iconst 2, 1) := by decide +kernel
theorem dL_512 : decode code 512 = .ok (.iadd, 1) := by decide +kernel
theorem dL_513 : decode code 513 = .ok (.iaload, 1) := by decide +kernel
theorem dL_514 : decode code 514 = .ok (.aload_n 0, 1) := by decide +kernel
theorem dL_515 : decode code 515 = .ok (.iload_n 3, 1) := by decide +kernel
theorem dL_516 : decode code 516 = .ok (.iconst 3, 1) := by decide +kernel
theorem dL_517 : decode code 517 = .ok (.iadd, 1) := by decide +kernel
theorem dL_518 : decode code 518 = .ok (.iaload, 1) := by decide +kernel
theorem dL_519 : decode code 519 = .ok (.invokevirtual 45, 3) := by decide +kernel
theorem dL_522 : decode code 522 = .ok (.aload_n 2, 1) := by decide +kernel
theorem dL_523 : decode code 523 = .ok (.aload_n 0, 1) := by decide +kernel
theorem dL_524 : decode code 524 = .ok (.iload_n 3, 1) := by decide +kernel
theorem dL_525 : decode code 525 = .ok (.iconst 1, 1) := by decide +kernel
theorem dL_526 : decode code 526 = .ok (.iadd, 1) := by decide +kernel
theorem dL_527 : decode code 527 = .ok (.iaload, 1) := by decide +kernel
theorem dL_528 : decode code 528 = .ok (.aload_n 0, 1) := by decide +kernel
theorem dL_529 : decode code 529 = .ok (.iload_n 3, 1) := by decide +kernel
theorem dL_530 : decode code 530 = .ok (.iconst 2, 1) := by decide +kernel
theorem dL_531 : decode code 531 = .ok (.iadd, 1) := by decide +kernel
theorem dL_532 : decode code 532 = .ok (.iaload, 1) := by decide +kernel
theorem dL_533 : decode code 533 = .ok (.aload_n 0, 1) := by decide +kernel
theorem dL_534 : decode code 534 = .ok (.iload_n 3, 1) := by decide +kernel
theorem dL_535 : decode code 535 = .ok (.iconst 3, 1) := by decide +kernel
theorem dL_536 : decode code 536 = .ok (.iadd, 1) := by decide +kernel
theorem dL_537 : decode code 537 = .ok (.iaload, 1) := by decide +kernel
theorem dL_538 : decode code 538 = .ok (.invokevirtual 48, 3) := by decide +kernel
theorem dL_541 : decode code 541 = .ok (.if_icmp .eq 631, 3) := by decide +kernel
theorem dL_544 : decode code 544 = .ok (.iconst 0, 1) := by decide +kernel
theorem dL_545 : decode code 545 = .ok (.ireturn, 1) := by decide +kernel
theorem dL_546 : decode code 546 = .ok (.aload_n 1, 1) := by decide +kernel
theorem dL_547 : decode code 547 = .ok (.aload_n 0, 1) := by decide +kernel
theorem dL_548 : decode code 548 = .ok (.iload_n 3, 1) := by decide +kernel
theorem dL_549 : decode code 549 = .ok (.iconst 1, 1) := by decide +kernel
theorem dL_550 : decode code 550 = .ok (.iadd, 1) := by decide +kernel
theorem dL_551 : decode code 551 = .ok (.iaload, 1) := by decide +kernel
theorem dL_552 : decode code 552 = .ok (.aload_n 0, 1) := by decide +kernel
theorem dL_553 : decode code 553 = .ok (.iload_n 3, 1) := by decide +kernel
theorem dL_554 : decode code 554 = .ok (.iconst 2, 1) := by decide +kernel
theorem dL_555 : decode code 555 = .ok (.iadd, 1) := by decide +kernel
theorem dL_556 : decode code 556 = .ok (.iaload, 1) := by decide +kernel
theorem dL_557 : decode code 557 = .ok (.invokevirtual 49, 3) := by decide +kernel
theorem dL_560 : decode code 560 = .ok (.aload_n 2, 1) := by decide +kernel
theorem dL_561 : decode code 561 = .ok (.aload_n 0, 1) := by decide +kernel
theorem dL_562 : decode code 562 = .ok (.iload_n 3, 1) := by decide +kernel
theorem dL_563 : decode code 563 = .ok (.iconst 1, 1) := by decide +kernel
theorem dL_564 : decode code 564 = .ok (.iadd, 1) := by decide +kernel
theorem dL_565 : decode code 565 = .ok (.iaload, 1) := by decide +kernel
theorem dL_566 : decode code 566 = .ok (.aload_n 0, 1) := by decide +kernel
theorem dL_567 : decode code 567 = .ok (.iload_n 3, 1) := by decide +kernel
theorem dL_568 : decode code 568 = .ok (.iconst 2, 1) := by decide +kernel
theorem dL_569 : decode code 569 = .ok (.iadd, 1) := by decide +kernel
theorem dL_570 : decode code 570 = .ok (.iaload, 1) := by decide +kernel
theorem dL_571 : decode code 571 = .ok (.invokevirtual 52, 3) := by decide +kernel
theorem dL_574 : decode code 574 = .ok (.if_icmp .eq 598, 3) := by decide +kernel
theorem dL_577 : decode code 577 = .ok (.iconst 0, 1) := by decide +kernel
theorem dL_578 : decode code 578 = .ok (.ireturn, 1) := by decide +kernel
theorem dL_579 : decode code 579 = .ok (.aload_n 1, 1) := by decide +kernel
theorem dL_580 : decode code 580 = .ok (.aload_n 0, 1) := by decide +kernel
theorem dL_581 : decode code 581 = .ok (.iload_n 3, 1) := by decide +kernel
theorem dL_582 : decode code 582 = .ok (.iconst 1, 1) := by decide +kernel
theorem dL_583 : decode code 583 = .ok (.iadd, 1) := by decide +kernel
theorem dL_584 : decode code 584 = .ok (.iaload, 1) := by decide +kernel
theorem dL_585 : decode code 585 = .ok (.aload_n 0, 1) := by decide +kernel
theorem dL_586 : decode code 586 = .ok (.iload_n 3, 1) := by decide +kernel
theorem dL_587 : decode code 587 = .ok (.iconst 2, 1) := by decide +kernel
theorem dL_588 : decode code 588 = .ok (.iadd, 1) := by decide +kernel
theorem dL_589 : decode code 589 = .ok (.iaload, 1) := by decide +kernel
theorem dL_590 : decode code 590 = .ok (.aload_n 0, 1) := by decide +kernel
theorem dL_591 : decode code 591 = .ok (.iload_n 3, 1) := by decide +kernel
theorem dL_592 : decode code 592 = .ok (.iconst 3, 1) := by decide +kernel
theorem dL_593 : decode code 593 = .ok (.iadd, 1) := by decide +kernel
theorem dL_594 : decode code 594 = .ok (.iaload, 1) := by decide +kernel
theorem dL_595 : decode code 595 = .ok (.invokevirtual 53, 3) := by decide +kernel
theorem dL_598 : decode code 598 = .ok (.aload_n 2, 1) := by decide +kernel
theorem dL_599 : decode code 599 = .ok (.aload_n 0, 1) := by decide +kernel
theorem dL_600 : decode code 600 = .ok (.iload_n 3, 1) := by decide +kernel
theorem dL_601 : decode code 601 = .ok (.iconst 1, 1) := by decide +kernel
theorem dL_602 : decode code 602 = .ok (.iadd, 1) := by decide +kernel
theorem dL_603 : decode code 603 = .ok (.iaload, 1) := by decide +kernel
theorem dL_604 : decode code 604 = .ok (.aload_n 0, 1) := by decide +kernel
theorem dL_605 : decode code 605 = .ok (.iload_n 3, 1) := by decide +kernel
theorem dL_606 : decode code 606 = .ok (.iconst 2, 1) := by decide +kernel
theorem dL_607 : decode code 607 = .ok (.iadd, 1) := by decide +kernel
theorem dL_608 : decode code 608 = .ok (.iaload, 1) := by decide +kernel
theorem dL_609 : decode code 609 = .ok (.aload_n 0, 1) := by decide +kernel
theorem dL_610 : decode code 610 = .ok (.iload_n 3, 1) := by decide +kernel
theorem dL_611 : decode code 611 = .ok (.iconst 3, 1) := by decide +kernel
theorem dL_612 : decode code 612 = .ok (.iadd, 1) := by decide +kernel
theorem dL_613 : decode code 613 = .ok (.iaload, 1) := by decide +kernel
theorem dL_614 : decode code 614 = .ok (.invokevirtual 56, 3) := by decide +kernel
theorem dL_617 : decode code 617 = .ok (.if_icmp .eq 555, 3) := by decide +kernel
theorem dL_620 : decode code 620 = .ok (.iconst 0, 1) := by decide +kernel
theorem dL_621 : decode code 621 = .ok (.ireturn, 1) := by decide +kernel
theorem dL_622 : decode code 622 = .ok (.aload_n 1, 1) := by decide +kernel
theorem dL_623 : decode code 623 = .ok (.aload_n 0, 1) := by decide +kernel
theorem dL_624 : decode code 624 = .ok (.iload_n 3, 1) := by decide +kernel
theorem dL_625 : decode code 625 = .ok (.iconst 1, 1) := by decide +kernel
theorem dL_626 : decode code 626 = .ok (.iadd, 1) := by decide +kernel
theorem dL_627 : decode code 627 = .ok (.iaload, 1) := by decide +kernel
theorem dL_628 : decode code 628 = .ok (.aload_n 0, 1) := by decide +kernel
theorem dL_629 : decode code 629 = .ok (.iload_n 3, 1) := by decide +kernel
theorem dL_630 : decode code 630 = .ok (.iconst 2, 1) := by decide +kernel
theorem dL_631 : decode code 631 = .ok (.iadd, 1) := by decide +kernel
theorem dL_632 : decode code 632 = .ok (.iaload, 1) := by decide +kernel
theorem dL_633 : decode code 633 = .ok (.aload_n 0, 1) := by decide +kernel
theorem dL_634 : decode code 634 = .ok (.iload_n 3, 1) := by decide +kernel
theorem dL_635 : decode code 635 = .ok (.iconst 3, 1) := by decide +kernel
theorem dL_636 : decode code 636 = .ok (.iadd, 1) := by decide +kernel
theorem dL_637 : decode code 637 = .ok (.iaload, 1) := by decide +kernel
theorem dL_638 : decode code 638 = .ok (.aload_n 0, 1) := by decide +kernel
theorem dL_639 : decode code 639 = .ok (.iload_n 3, 1) := by decide +kernel
theorem dL_640 : decode code 640 = .ok (.iconst 4, 1) := by decide +kernel
theorem dL_641 : decode code 641 = .ok (.iadd, 1) := by decide +kernel
theorem dL_642 : decode code 642 = .ok (.iaload, 1) := by decide +kernel
theorem dL_643 : decode code 643 = .ok (.aload_n 0, 1) := by decide +kernel
theorem dL_644 : decode code 644 = .ok (.iload_n 3, 1) := by decide +kernel
theorem dL_645 : decode code 645 = .ok (.iconst 5, 1) := by decide +kernel
theorem dL_646 : decode code 646 = .ok (.iadd, 1) := by decide +kernel
theorem dL_647 : decode code 647 = .ok (.iaload, 1) := by decide +kernel
theorem dL_648 : decode code 648 = .ok (.invokevirtual 57, 3) := by decide +kernel
theorem dL_651 : decode code 651 = .ok (.aload_n 2, 1) := by decide +kernel
theorem dL_652 : decode code 652 = .ok (.aload_n 0, 1) := by decide +kernel
theorem dL_653 : decode code 653 = .ok (.iload_n 3, 1) := by decide +kernel
theorem dL_654 : decode code 654 = .ok (.iconst 1, 1) := by decide +kernel
theorem dL_655 : decode code 655 = .ok (.iadd, 1) := by decide +kernel
theorem dL_656 : decode code 656 = .ok (.iaload, 1) := by decide +kernel
theorem dL_657 : decode code 657 = .ok (.aload_n 0, 1) := by decide +kernel
theorem dL_658 : decode code 658 = .ok (.iload_n 3, 1) := by decide +kernel
theorem dL_659 : decode code 659 = .ok (.iconst 2, 1) := by decide +kernel
theorem dL_660 : decode code 660 = .ok (.iadd, 1) := by decide +kernel
theorem dL_661 : decode code 661 = .ok (.iaload, 1) := by decide +kernel
theorem dL_662 : decode code 662 = .ok (.aload_n 0, 1) := by decide +kernel
theorem dL_663 : decode code 663 = .ok (.iload_n 3, 1) := by decide +kernel
theorem dL_664 : decode code 664 = .ok (.iconst 3, 1) := by decide +kernel
theorem dL_665 : decode code 665 = .ok (.iadd, 1) := by decide +kernel
theorem dL_666 : decode code 666 = .ok (.iaload, 1) := by decide +kernel
theorem dL_667 : decode code 667 = .ok (.aload_n 0, 1) := by decide +kernel
theorem dL_668 : decode code 668 = .ok (.iload_n 3, 1) := by decide +kernel
theorem dL_669 : decode code 669 = .ok (.iconst 4, 1) := by decide +kernel
theorem dL_670 : decode code 670 = .ok (.iadd, 1) := by decide +kernel
theorem dL_671 : decode code 671 = .ok (.iaload, 1) := by decide +kernel
theorem dL_672 : decode code 672 = .ok (.aload_n 0, 1) := by decide +kernel
theorem dL_673 : decode code 673 = .ok (.iload_n 3, 1) := by decide +kernel
theorem dL_674 : decode code 674 = .ok (.iconst 5, 1) := by decide +kernel
theorem dL_675 : decode code 675 = .ok (.iadd, 1) := by decide +kernel
theorem dL_676 : decode code 676 = .ok (.iaload, 1) := by decide +kernel
theorem dL_677 : decode code 677 = .ok (.invokevirtual 60, 3) := by decide +kernel
theorem dL_680 : decode code 680 = .ok (.if_icmp .eq 492, 3) := by decide +kernel
theorem dL_683 : decode code 683 = .ok (.iconst 0, 1) := by decide +kernel
theorem dL_684 : decode code 684 = .ok (.ireturn, 1) := by decide +kernel
theorem dL_685 : decode code 685 = .ok (.aload_n 1, 1) := by decide +kernel
theorem dL_686 : decode code 686 = .ok (.aload_n 0, 1) := by decide +kernel
theorem dL_687 : decode code 687 = .ok (.iload_n 3, 1) := by decide +kernel
theorem dL_688 : decode code 688 = .ok (.iconst 1, 1) := by decide +kernel
theorem dL_689 : decode code 689 = .ok (.iadd, 1) := by decide +kernel
theorem dL_690 : decode code 690 = .ok (.iaload, 1) := by decide +kernel
theorem dL_691 : decode code 691 = .ok (.invokevirtual 61, 3) := by decide +kernel
theorem dL_694 : decode code 694 = .ok (.aload_n 2, 1) := by decide +kernel
theorem dL_695 : decode code 695 = .ok (.aload_n 0, 1) := by decide +kernel
theorem dL_696 : decode code 696 = .ok (.iload_n 3, 1) := by decide +kernel
theorem dL_697 : decode code 697 = .ok (.iconst 1, 1) := by decide +kernel
theorem dL_698 : decode code 698 = .ok (.iadd, 1) := by decide +kernel
theorem dL_699 : decode code 699 = .ok (.iaload, 1) := by decide +kernel
theorem dL_700 : decode code 700 = .ok (.invokevirtual 65, 3) := by decide +kernel
theorem dL_703 : decode code 703 = .ok (.if_icmp .eq 469, 3) := by decide +kernel
theorem dL_706 : decode code 706 = .ok (.iconst 0, 1) := by decide +kernel
theorem dL_707 : decode code 707 = .ok (.ireturn, 1) := by decide +kernel
theorem dL_708 : decode code 708 = .ok (.aload_n 1, 1) := by decide +kernel
theorem dL_709 : decode code 709 = .ok (.aload_n 0, 1) := by decide +kernel
theorem dL_710 : decode code 710 = .ok (.iload_n 3, 1) := by decide +kernel
theorem dL_711 : decode code 711 = .ok (.iconst 1, 1) := by decide +kernel
theorem dL_712 : decode code 712 = .ok (.iadd, 1) := by decide +kernel
theorem dL_713 : decode code 713 = .ok (.iaload, 1) := by decide +kernel
theorem dL_714 : decode code 714 = .ok (.invokevirtual 66, 3) := by decide +kernel
theorem dL_717 : decode code 717 = .ok (.aload_n 2, 1) := by decide +kernel
theorem dL_718 : decode code 718 = .ok (.aload_n 0, 1) := by decide +kernel
theorem dL_719 : decode code 719 = .ok (.iload_n 3, 1) := by decide +kernel
theorem dL_720 : decode code 720 = .ok (.iconst 1, 1) := by decide +kernel
theorem dL_721 : decode code 721 = .ok (.iadd, 1) := by decide +kernel
theorem dL_722 : decode code 722 = .ok (.iaload, 1) := by decide +kernel
theorem dL_723 : decode code 723 = .ok (.invokevirtual 69, 3) := by decide +kernel
theorem dL_726 : decode code 726 = .ok (.if_icmp .eq 446, 3) := by decide +kernel
theorem dL_729 : decode code 729 = .ok (.iconst 0, 1) := by decide +kernel
theorem dL_730 : decode code 730 = .ok (.ireturn, 1) := by decide +kernel
theorem dL_731 : decode code 731 = .ok (.aload_n 1, 1) := by decide +kernel
theorem dL_732 : decode code 732 = .ok (.aload_n 0, 1) := by decide +kernel
theorem dL_733 : decode code 733 = .ok (.iload_n 3, 1) := by decide +kernel
theorem dL_734 : decode code 734 = .ok (.iconst 1, 1) := by decide +kernel
theorem dL_735 : decode code 735 = .ok (.iadd, 1) := by decide +kernel
theorem dL_736 : decode code 736 = .ok (.iaload, 1) := by decide +kernel
theorem dL_737 : decode code 737 = .ok (.invokevirtual 70, 3) := by decide +kernel
theorem dL_740 : decode code 740 = .ok (.aload_n 2, 1) := by decide +kernel
theorem dL_741 : decode code 741 = .ok (.aload_n 0, 1) := by decide +kernel
theorem dL_742 : decode code 742 = .ok (.iload_n 3, 1) := by decide +kernel
theorem dL_743 : decode code 743 = .ok (.iconst 1, 1) := by decide +kernel
theorem dL_744 : decode code 744 = .ok (.iadd, 1) := by decide +kernel
theorem dL_745 : decode code 745 = .ok (.iaload, 1) := by decide +kernel
theorem dL_746 : decode code 746 = .ok (.invokevirtual 73, 3) := by decide +kernel
theorem dL_749 : decode code 749 = .ok (.if_icmp .eq 423, 3) := by decide +kernel
theorem dL_752 : decode code 752 = .ok (.iconst 0, 1) := by decide +kernel
theorem dL_753 : decode code 753 = .ok (.ireturn, 1) := by decide +kernel
theorem dL_754 : decode code 754 = .ok (.aload_n 1, 1) := by decide +kernel
theorem dL_755 : decode code 755 = .ok (.aload_n 0, 1) := by decide +kernel
theorem dL_756 : decode code 756 = .ok (.iload_n 3, 1) := by decide +kernel
theorem dL_757 : decode code 757 = .ok (.iconst 1, 1) := by decide +kernel
theorem dL_758 : decode code 758 = .ok (.iadd, 1) := by decide +kernel
theorem dL_759 : decode code 759 = .ok (.iaload, 1) := by decide +kernel
theorem dL_760 : decode code 760 = .ok (.aload_n 0, 1) := by decide +kernel
theorem dL_761 : decode code 761 = .ok (.iload_n 3, 1) := by decide +kernel
theorem dL_762 : decode code 762 = .ok (.iconst 2, 1) := by decide +kernel
theorem dL_763 : decode code 763 = .ok (.iadd, 1) := by decide +kernel
theorem dL_764 : decode code 764 = .ok (.iaload, 1) := by decide +kernel
theorem dL_765 : decode code 765 = .ok (.aload_n 0, 1) := by decide +kernel
theorem dL_766 : decode code 766 = .ok (.iload_n 3, 1) := by decide +kernel
theorem dL_767 : decode code 767 = .ok (.iconst 3, 1) := by decide +kernel
theorem dL_768 : decode code 768 = .ok (.iadd, 1) := by decide +kernel
theorem dL_769 : decode code 769 = .ok (.iaload, 1) := by decide +kernel
theorem dL_770 : decode code 770 = .ok (.aload_n 0, 1) := by decide +kernel
theorem dL_771 : decode code 771 = .ok (.iload_n 3, 1) := by decide +kernel
theorem dL_772 : decode code 772 = .ok (.iconst 4, 1) := by decide +kernel
theorem dL_773 : decode code 773 = .ok (.iadd, 1) := by decide +kernel
theorem dL_774 : decode code 774 = .ok (.iaload, 1) := by decide +kernel
theorem dL_775 : decode code 775 = .ok (.invokevirtual 74, 3) := by decide +kernel
theorem dL_778 : decode code 778 = .ok (.aload_n 2, 1) := by decide +kernel
theorem dL_779 : decode code 779 = .ok (.aload_n 0, 1) := by decide +kernel
theorem dL_780 : decode code 780 = .ok (.iload_n 3, 1) := by decide +kernel
theorem dL_781 : decode code 781 = .ok (.iconst 1, 1) := by decide +kernel
theorem dL_782 : decode code 782 = .ok (.iadd, 1) := by decide +kernel
theorem dL_783 : decode code 783 = .ok (.iaload, 1) := by decide +kernel
theorem dL_784 : decode code 784 = .ok (.aload_n 0, 1) := by decide +kernel
theorem dL_785 : decode code 785 = .ok (.iload_n 3, 1) := by decide +kernel
theorem dL_786 : decode code 786 = .ok (.iconst 2, 1) := by decide +kernel
theorem dL_787 : decode code 787 = .ok (.iadd, 1) := by decide +kernel
theorem dL_788 : decode code 788 = .ok (.iaload, 1) := by decide +kernel
theorem dL_789 : decode code 789 = .ok (.aload_n 0, 1) := by decide +kernel
theorem dL_790 : decode code 790 = .ok (.iload_n 3, 1) := by decide +kernel
theorem dL_791 : decode code 791 = .ok (.iconst 3, 1) := by decide +kernel
theorem dL_792 : decode code 792 = .ok (.iadd, 1) := by decide +kernel
theorem dL_793 : decode code 793 = .ok (.iaload, 1) := by decide +kernel
theorem dL_794 : decode code 794 = .ok (.aload_n 0, 1) := by decide +kernel
theorem dL_795 : decode code 795 = .ok (.iload_n 3, 1) := by decide +kernel
theorem dL_796 : decode code 796 = .ok (.iconst 4, 1) := by decide +kernel
theorem dL_797 : decode code 797 = .ok (.iadd, 1) := by decide +kernel
theorem dL_798 : decode code 798 = .ok (.iaload, 1) := by decide +kernel
theorem dL_799 : decode code 799 = .ok (.invokevirtual 77, 3) := by decide +kernel
theorem dL_802 : decode code 802 = .ok (.if_icmp .eq 370, 3) := by decide +kernel
theorem dL_805 : decode code 805 = .ok (.iconst 0, 1) := by decide +kernel
theorem dL_806 : decode code 806 = .ok (.ireturn, 1) := by decide +kernel
theorem dL_807 : decode code 807 = .ok (.aload_n 1, 1) := by decide +kernel
theorem dL_808 : decode code 808 = .ok (.aload_n 0, 1) := by decide +kernel
theorem dL_809 : decode code 809 = .ok (.iload_n 3, 1) := by decide +kernel
theorem dL_810 : decode code 810 = .ok (.iconst 1, 1) := by decide +kernel
theorem dL_811 : decode code 811 = .ok (.iadd, 1) := by decide +kernel
theorem dL_812 : decode code 812 = .ok (.iaload, 1) := by decide +kernel
theorem dL_813 : decode code 813 = .ok (.aload_n 0, 1) := by decide +kernel
theorem dL_814 : decode code 814 = .ok (.iload_n 3, 1) := by decide +kernel
theorem dL_815 : decode code 815 = .ok (.iconst 2, 1) := by decide +kernel
theorem dL_816 : decode code 816 = .ok (.iadd, 1) := by decide +kernel
theorem dL_817 : decode code 817 = .ok (.iaload, 1) := by decide +kernel
theorem dL_818 : decode code 818 = .ok (.invokevirtual 78, 3) := by decide +kernel
theorem dL_821 : decode code 821 = .ok (.aload_n 2, 1) := by decide +kernel
theorem dL_822 : decode code 822 = .ok (.aload_n 0, 1) := by decide +kernel
theorem dL_823 : decode code 823 = .ok (.iload_n 3, 1) := by decide +kernel
theorem dL_824 : decode code 824 = .ok (.iconst 1, 1) := by decide +kernel
theorem dL_825 : decode code 825 = .ok (.iadd, 1) := by decide +kernel
theorem dL_826 : decode code 826 = .ok (.iaload, 1) := by decide +kernel
theorem dL_827 : decode code 827 = .ok (.aload_n 0, 1) := by decide +kernel
theorem dL_828 : decode code 828 = .ok (.iload_n 3, 1) := by decide +kernel
theorem dL_829 : decode code 829 = .ok (.iconst 2, 1) := by decide +kernel
theorem dL_830 : decode code 830 = .ok (.iadd, 1) := by decide +kernel
theorem dL_831 : decode code 831 = .ok (.iaload, 1) := by decide +kernel
theorem dL_832 : decode code 832 = .ok (.invokevirtual 81, 3) := by decide +kernel
theorem dL_835 : decode code 835 = .ok (.if_icmp .eq 337, 3) := by decide +kernel
theorem dL_838 : decode code 838 = .ok (.iconst 0, 1) := by decide +kernel
theorem dL_839 : decode code 839 = .ok (.ireturn, 1) := by decide +kernel
theorem dL_840 : decode code 840 = .ok (.aload_n 1, 1) := by decide +kernel
theorem dL_841 : decode code 841 = .ok (.aload_n 0, 1) := by decide +kernel
theorem dL_842 : decode code 842 = .ok (.iload_n 3, 1) := by decide +kernel
theorem dL_843 : decode code 843 = .ok (.iconst 1, 1) := by decide +kernel
theorem dL_844 : decode code 844 = .ok (.iadd, 1) := by decide +kernel
theorem dL_845 : decode code 845 = .ok (.iaload, 1) := by decide +kernel
theorem dL_846 : decode code 846 = .ok (.aload_n 0, 1) := by decide +kernel
theorem dL_847 : decode code 847 = .ok (.iload_n 3, 1) := by decide +kernel
theorem dL_848 : decode code 848 = .ok (.iconst 2, 1) := by decide +kernel
theorem dL_849 : decode code 849 = .ok (.iadd, 1) := by decide +kernel
theorem dL_850 : decode code 850 = .ok (.iaload, 1) := by decide +kernel
theorem dL_851 : decode code 851 = .ok (.aload_n 0, 1) := by decide +kernel
theorem dL_852 : decode code 852 = .ok (.iload_n 3, 1) := by decide +kernel
theorem dL_853 : decode code 853 = .ok (.iconst 3, 1) := by decide +kernel
theorem dL_854 : decode code 854 = .ok (.iadd, 1) := by decide +kernel
theorem dL_855 : decode code 855 = .ok (.iaload, 1) := by decide +kernel
theorem dL_856 : decode code 856 = .ok (.aload_n 0, 1) := by decide +kernel
theorem dL_857 : decode code 857 = .ok (.iload_n 3, 1) := by decide +kernel
theorem dL_858 : decode code 858 = .ok (.iconst 4, 1) := by decide +kernel
theorem dL_859 : decode code 859 = .ok (.iadd, 1) := by decide +kernel
theorem dL_860 : decode code 860 = .ok (.iaload, 1) := by decide +kernel
theorem dL_861 : decode code 861 = .ok (.aload_n 0, 1) := by decide +kernel
theorem dL_862 : decode code 862 = .ok (.iload_n 3, 1) := by decide +kernel
theorem dL_863 : decode code 863 = .ok (.iconst 5, 1) := by decide +kernel
theorem dL_864 : decode code 864 = .ok (.iadd, 1) := by decide +kernel
theorem dL_865 : decode code 865 = .ok (.iaload, 1) := by decide +kernel
theorem dL_866 : decode code 866 = .ok (.aload_n 0, 1) := by decide +kernel
theorem dL_867 : decode code 867 = .ok (.iload_n 3, 1) := by decide +kernel
theorem dL_868 : decode code 868 = .ok (.bipush 6, 2) := by decide +kernel
theorem dL_870 : decode code 870 = .ok (.iadd, 1) := by decide +kernel
theorem dL_871 : decode code 871 = .ok (.iaload, 1) := by decide +kernel
theorem dL_872 : decode code 872 = .ok (.invokevirtual 82, 3) := by decide +kernel
theorem dL_875 : decode code 875 = .ok (.aload_n 2, 1) := by decide +kernel
theorem dL_876 : decode code 876 = .ok (.aload_n 0, 1) := by decide +kernel
theorem dL_877 : decode code 877 = .ok (.iload_n 3, 1) := by decide +kernel
theorem dL_878 : decode code 878 = .ok (.iconst 1, 1) := by decide +kernel
theorem dL_879 : decode code 879 = .ok (.iadd, 1) := by decide +kernel
theorem dL_880 : decode code 880 = .ok (.iaload, 1) := by decide +kernel
theorem dL_881 : decode code 881 = .ok (.aload_n 0, 1) := by decide +kernel
theorem dL_882 : decode code 882 = .ok (.iload_n 3, 1) := by decide +kernel
theorem dL_883 : decode code 883 = .ok (.iconst 2, 1) := by decide +kernel
theorem dL_884 : decode code 884 = .ok (.iadd, 1) := by decide +kernel
theorem dL_885 : decode code 885 = .ok (.iaload, 1) := by decide +kernel
theorem dL_886 : decode code 886 = .ok (.aload_n 0, 1) := by decide +kernel
theorem dL_887 : decode code 887 = .ok (.iload_n 3, 1) := by decide +kernel
theorem dL_888 : decode code 888 = .ok (.iconst 3, 1) := by decide +kernel
theorem dL_889 : decode code 889 = .ok (.iadd, 1) := by decide +kernel
theorem dL_890 : decode code 890 = .ok (.iaload, 1) := by decide +kernel
theorem dL_891 : decode code 891 = .ok (.aload_n 0, 1) := by decide +kernel
theorem dL_892 : decode code 892 = .ok (.iload_n 3, 1) := by decide +kernel
theorem dL_893 : decode code 893 = .ok (.iconst 4, 1) := by decide +kernel
theorem dL_894 : decode code 894 = .ok (.iadd, 1) := by decide +kernel
theorem dL_895 : decode code 895 = .ok (.iaload, 1) := by decide +kernel
theorem dL_896 : decode code 896 = .ok (.aload_n 0, 1) := by decide +kernel
theorem dL_897 : decode code 897 = .ok (.iload_n 3, 1) := by decide +kernel
theorem dL_898 : decode code 898 = .ok (.iconst 5, 1) := by decide +kernel
theorem dL_899 : decode code 899 = .ok (.iadd, 1) := by decide +kernel
theorem dL_900 : decode code 900 = .ok (.iaload, 1) := by decide +kernel
theorem dL_901 : decode code 901 = .ok (.aload_n 0, 1) := by decide +kernel
theorem dL_902 : decode code 902 = .ok (.iload_n 3, 1) := by decide +kernel
theorem dL_903 : decode code 903 = .ok (.bipush 6, 2) := by decide +kernel
theorem dL_905 : decode code 905 = .ok (.iadd, 1) := by decide +kernel
theorem dL_906 : decode code 906 = .ok (.iaload, 1) := by decide +kernel
theorem dL_907 : decode code 907 = .ok (.invokevirtual 86, 3) := by decide +kernel
theorem dL_910 : decode code 910 = .ok (.if_icmp .eq 262, 3) := by decide +kernel
theorem dL_913 : decode code 913 = .ok (.iconst 0, 1) := by decide +kernel
theorem dL_914 : decode code 914 = .ok (.ireturn, 1) := by decide +kernel
theorem dL_915 : decode code 915 = .ok (.aload_n 1, 1) := by decide +kernel
theorem dL_916 : decode code 916 = .ok (.invokevirtual 87, 3) := by decide +kernel
theorem dL_919 : decode code 919 = .ok (.aload_n 2, 1) := by decide +kernel
theorem dL_920 : decode code 920 = .ok (.invokevirtual 91, 3) := by decide +kernel
theorem dL_923 : decode code 923 = .ok (.if_icmp .eq 249, 3) := by decide +kernel
theorem dL_926 : decode code 926 = .ok (.iconst 0, 1) := by decide +kernel
theorem dL_927 : decode code 927 = .ok (.ireturn, 1) := by decide +kernel
theorem dL_928 : decode code 928 = .ok (.aload_n 1, 1) := by decide +kernel
theorem dL_929 : decode code 929 = .ok (.aload_n 0, 1) := by decide +kernel
theorem dL_930 : decode code 930 = .ok (.iload_n 3, 1) := by decide +kernel
theorem dL_931 : decode code 931 = .ok (.iconst 1, 1) := by decide +kernel
theorem dL_932 : decode code 932 = .ok (.iadd, 1) := by decide +kernel
theorem dL_933 : decode code 933 = .ok (.iaload, 1) := by decide +kernel
theorem dL_934 : decode code 934 = .ok (.invokevirtual 92, 3) := by decide +kernel
theorem dL_937 : decode code 937 = .ok (.aload_n 2, 1) := by decide +kernel
theorem dL_938 : decode code 938 = .ok (.aload_n 0, 1) := by decide +kernel
theorem dL_939 : decode code 939 = .ok (.iload_n 3, 1) := by decide +kernel
theorem dL_940 : decode code 940 = .ok (.iconst 1, 1) := by decide +kernel
theorem dL_941 : decode code 941 = .ok (.iadd, 1) := by decide +kernel
theorem dL_942 : decode code 942 = .ok (.iaload, 1) := by decide +kernel
theorem dL_943 : decode code 943 = .ok (.invokevirtual 95, 3) := by decide +kernel
theorem dL_946 : decode code 946 = .ok (.if_icmp .eq 226, 3) := by decide +kernel
theorem dL_949 : decode code 949 = .ok (.iconst 0, 1) := by decide +kernel
theorem dL_950 : decode code 950 = .ok (.ireturn, 1) := by decide +kernel
theorem dL_951 : decode code 951 = .ok (.aload_n 1, 1) := by decide +kernel
theorem dL_952 : decode code 952 = .ok (.aload_n 0, 1) := by decide +kernel
theorem dL_953 : decode code 953 = .ok (.iload_n 3, 1) := by decide +kernel
theorem dL_954 : decode code 954 = .ok (.iconst 1, 1) := by decide +kernel
theorem dL_955 : decode code 955 = .ok (.iadd, 1) := by decide +kernel
theorem dL_956 : decode code 956 = .ok (.iaload, 1) := by decide +kernel
theorem dL_957 : decode code 957 = .ok (.invokevirtual 96, 3) := by decide +kernel
theorem dL_960 : decode code 960 = .ok (.aload_n 2, 1) := by decide +kernel
theorem dL_961 : decode code 961 = .ok (.aload_n 0, 1) := by decide +kernel
theorem dL_962 : decode code 962 = .ok (.iload_n 3, 1) := by decide +kernel
theorem dL_963 : decode code 963 = .ok (.iconst 1, 1) := by decide +kernel
theorem dL_964 : decode code 964 = .ok (.iadd, 1) := by decide +kernel
theorem dL_965 : decode code 965 = .ok (.iaload, 1) := by decide +kernel
theorem dL_966 : decode code 966 = .ok (.invokevirtual 99, 3) := by decide +kernel
theorem dL_969 : decode code 969 = .ok (.if_icmp .eq 203, 3) := by decide +kernel
theorem dL_972 : decode code 972 = .ok (.iconst 0, 1) := by decide +kernel
theorem dL_973 : decode code 973 = .ok (.ireturn, 1) := by decide +kernel
theorem dL_974 : decode code 974 = .ok (.aload_n 1, 1) := by decide +kernel
theorem dL_975 : decode code 975 = .ok (.aload_n 0, 1) := by decide +kernel
theorem dL_976 : decode code 976 = .ok (.iload_n 3, 1) := by decide +kernel
theorem dL_977 : decode code 977 = .ok (.iconst 1, 1) := by decide +kernel
theorem dL_978 : decode code 978 = .ok (.iadd, 1) := by decide +kernel
theorem dL_979 : decode code 979 = .ok (.iaload, 1) := by decide +kernel
theorem dL_980 : decode code 980 = .ok (.aload_n 0, 1) := by decide +kernel
theorem dL_981 : decode code 981 = .ok (.iload_n 3, 1) := by decide +kernel
theorem dL_982 : decode code 982 = .ok (.iconst 2, 1) := by decide +kernel
theorem dL_983 : decode code 983 = .ok (.iadd, 1) := by decide +kernel
theorem dL_984 : decode code 984 = .ok (.iaload, 1) := by decide +kernel
theorem dL_985 : decode code 985 = .ok (.invokevirtual 100, 3) := by decide +kernel
theorem dL_988 : decode code 988 = .ok (.aload_n 2, 1) := by decide +kernel
theorem dL_989 : decode code 989 = .ok (.aload_n 0, 1) := by decide +kernel
theorem dL_990 : decode code 990 = .ok (.iload_n 3, 1) := by decide +kernel
theorem dL_991 : decode code 991 = .ok (.iconst 1, 1) := by decide +kernel
theorem dL_992 : decode code 992 = .ok (.iadd, 1) := by decide +kernel
theorem dL_993 : decode code 993 = .ok (.iaload, 1) := by decide +kernel
theorem dL_994 : decode code 994 = .ok (.aload_n 0, 1) := by decide +kernel
theorem dL_995 : decode code 995 = .ok (.iload_n 3, 1) := by decide +kernel
theorem dL_996 : decode code 996 = .ok (.iconst 2, 1) := by decide +kernel
theorem dL_997 : decode code 997 = .ok (.iadd, 1) := by decide +kernel
theorem dL_998 : decode code 998 = .ok (.iaload, 1) := by decide +kernel
theorem dL_999 : decode code 999 = .ok (.invokevirtual 103, 3) := by decide +kernel
theorem dL_1002 : decode code 1002 = .ok (.if_icmp .eq 170, 3) := by decide +kernel
theorem dL_1005 : decode code 1005 = .ok (.iconst 0, 1) := by decide +kernel
theorem dL_1006 : decode code 1006 = .ok (.ireturn, 1) := by decide +kernel
theorem dL_1007 : decode code 1007 = .ok (.aload_n 1, 1) := by decide +kernel
theorem dL_1008 : decode code 1008 = .ok (.aload_n 0, 1) := by decide +kernel
theorem dL_1009 : decode code 1009 = .ok (.iload_n 3, 1) := by decide +kernel
theorem dL_1010 : decode code 1010 = .ok (.iconst 1, 1) := by decide +kernel
theorem dL_1011 : decode code 1011 = .ok (.iadd, 1) := by decide +kernel
theorem dL_1012 : decode code 1012 = .ok (.iaload, 1) := by decide +kernel
theorem dL_1013 : decode code 1013 = .ok (.invokevirtual 104, 3) := by decide +kernel
theorem dL_1016 : decode code 1016 = .ok (.aload_n 2, 1) := by decide +kernel
theorem dL_1017 : decode code 1017 = .ok (.aload_n 0, 1) := by decide +kernel
theorem dL_1018 : decode code 1018 = .ok (.iload_n 3, 1) := by decide +kernel
theorem dL_1019 : decode code 1019 = .ok (.iconst 1, 1) := by decide +kernel
theorem dL_1020 : decode code 1020 = .ok (.iadd, 1) := by decide +kernel
theorem dL_1021 : decode code 1021 = .ok (.iaload, 1) := by decide +kernel
theorem dL_1022 : decode code 1022 = .ok (.invokevirtual 107, 3) := by decide +kernel
theorem dL_1025 : decode code 1025 = .ok (.if_icmp .eq 147, 3) := by decide +kernel
theorem dL_1028 : decode code 1028 = .ok (.iconst 0, 1) := by decide +kernel
theorem dL_1029 : decode code 1029 = .ok (.ireturn, 1) := by decide +kernel
theorem dL_1030 : decode code 1030 = .ok (.aload_n 1, 1) := by decide +kernel
theorem dL_1031 : decode code 1031 = .ok (.aload_n 0, 1) := by decide +kernel
theorem dL_1032 : decode code 1032 = .ok (.iload_n 3, 1) := by decide +kernel
theorem dL_1033 : decode code 1033 = .ok (.iconst 1, 1) := by decide +kernel
theorem dL_1034 : decode code 1034 = .ok (.iadd, 1) := by decide +kernel
theorem dL_1035 : decode code 1035 = .ok (.iaload, 1) := by decide +kernel
theorem dL_1036 : decode code 1036 = .ok (.aload_n 0, 1) := by decide +kernel
theorem dL_1037 : decode code 1037 = .ok (.iload_n 3, 1) := by decide +kernel
theorem dL_1038 : decode code 1038 = .ok (.iconst 2, 1) := by decide +kernel
theorem dL_1039 : decode code 1039 = .ok (.iadd, 1) := by decide +kernel
theorem dL_1040 : decode code 1040 = .ok (.iaload, 1) := by decide +kernel
theorem dL_1041 : decode code 1041 = .ok (.aload_n 0, 1) := by decide +kernel
theorem dL_1042 : decode code 1042 = .ok (.iload_n 3, 1) := by decide +kernel
theorem dL_1043 : decode code 1043 = .ok (.iconst 3, 1) := by decide +kernel
theorem dL_1044 : decode code 1044 = .ok (.iadd, 1) := by decide +kernel
theorem dL_1045 : decode code 1045 = .ok (.iaload, 1) := by decide +kernel
theorem dL_1046 : decode code 1046 = .ok (.invokevirtual 108, 3) := by decide +kernel
theorem dL_1049 : decode code 1049 = .ok (.aload_n 2, 1) := by decide +kernel
theorem dL_1050 : decode code 1050 = .ok (.aload_n 0, 1) := by decide +kernel
theorem dL_1051 : decode code 1051 = .ok (.iload_n 3, 1) := by decide +kernel
theorem dL_1052 : decode code 1052 = .ok (.iconst 1, 1) := by decide +kernel
theorem dL_1053 : decode code 1053 = .ok (.iadd, 1) := by decide +kernel
theorem dL_1054 : decode code 1054 = .ok (.iaload, 1) := by decide +kernel
theorem dL_1055 : decode code 1055 = .ok (.aload_n 0, 1) := by decide +kernel
theorem dL_1056 : decode code 1056 = .ok (.iload_n 3, 1) := by decide +kernel
theorem dL_1057 : decode code 1057 = .ok (.iconst 2, 1) := by decide +kernel
theorem dL_1058 : decode code 1058 = .ok (.iadd, 1) := by decide +kernel
theorem dL_1059 : decode code 1059 = .ok (.iaload, 1) := by decide +kernel
theorem dL_1060 : decode code 1060 = .ok (.aload_n 0, 1) := by decide +kernel
theorem dL_1061 : decode code 1061 = .ok (.iload_n 3, 1) := by decide +kernel
theorem dL_1062 : decode code 1062 = .ok (.iconst 3, 1) := by decide +kernel
theorem dL_1063 : decode code 1063 = .ok (.iadd, 1) := by decide +kernel
theorem dL_1064 : decode code 1064 = .ok (.iaload, 1) := by decide +kernel
theorem dL_1065 : decode code 1065 = .ok (.invokevirtual 111, 3) := by decide +kernel
theorem dL_1068 : decode code 1068 = .ok (.if_icmp .eq 104, 3) := by decide +kernel
theorem dL_1071 : decode code 1071 = .ok (.iconst 0, 1) := by decide +kernel
theorem dL_1072 : decode code 1072 = .ok (.ireturn, 1) := by decide +kernel
theorem dL_1073 : decode code 1073 = .ok (.aload_n 1, 1) := by decide +kernel
theorem dL_1074 : decode code 1074 = .ok (.aload_n 0, 1) := by decide +kernel
theorem dL_1075 : decode code 1075 = .ok (.iload_n 3, 1) := by decide +kernel
theorem dL_1076 : decode code 1076 = .ok (.iconst 1, 1) := by decide +kernel
theorem dL_1077 : decode code 1077 = .ok (.iadd, 1) := by decide +kernel
theorem dL_1078 : decode code 1078 = .ok (.iaload, 1) := by decide +kernel
theorem dL_1079 : decode code 1079 = .ok (.aload_n 0, 1) := by decide +kernel
theorem dL_1080 : decode code 1080 = .ok (.iload_n 3, 1) := by decide +kernel
theorem dL_1081 : decode code 1081 = .ok (.iconst 2, 1) := by decide +kernel
theorem dL_1082 : decode code 1082 = .ok (.iadd, 1) := by decide +kernel
theorem dL_1083 : decode code 1083 = .ok (.iaload, 1) := by decide +kernel
theorem dL_1084 : decode code 1084 = .ok (.aload_n 0, 1) := by decide +kernel
theorem dL_1085 : decode code 1085 = .ok (.iload_n 3, 1) := by decide +kernel
theorem dL_1086 : decode code 1086 = .ok (.iconst 3, 1) := by decide +kernel
theorem dL_1087 : decode code 1087 = .ok (.iadd, 1) := by decide +kernel
theorem dL_1088 : decode code 1088 = .ok (.iaload, 1) := by decide +kernel
theorem dL_1089 : decode code 1089 = .ok (.invokevirtual 112, 3) := by decide +kernel
theorem dL_1092 : decode code 1092 = .ok (.aload_n 2, 1) := by decide +kernel
theorem dL_1093 : decode code 1093 = .ok (.aload_n 0, 1) := by decide +kernel
theorem dL_1094 : decode code 1094 = .ok (.iload_n 3, 1) := by decide +kernel
theorem dL_1095 : decode code 1095 = .ok (.iconst 1, 1) := by decide +kernel
theorem dL_1096 : decode code 1096 = .ok (.iadd, 1) := by decide +kernel
theorem dL_1097 : decode code 1097 = .ok (.iaload, 1) := by decide +kernel
theorem dL_1098 : decode code 1098 = .ok (.aload_n 0, 1) := by decide +kernel
theorem dL_1099 : decode code 1099 = .ok (.iload_n 3, 1) := by decide +kernel
theorem dL_1100 : decode code 1100 = .ok (.iconst 2, 1) := by decide +kernel
theorem dL_1101 : decode code 1101 = .ok (.iadd, 1) := by decide +kernel
theorem dL_1102 : decode code 1102 = .ok (.iaload, 1) := by decide +kernel
theorem dL_1103 : decode code 1103 = .ok (.aload_n 0, 1) := by decide +kernel
theorem dL_1104 : decode code 1104 = .ok (.iload_n 3, 1) := by decide +kernel
theorem dL_1105 : decode code 1105 = .ok (.iconst 3, 1) := by decide +kernel
theorem dL_1106 : decode code 1106 = .ok (.iadd, 1) := by decide +kernel
theorem dL_1107 : decode code 1107 = .ok (.iaload, 1) := by decide +kernel
theorem dL_1108 : decode code 1108 = .ok (.invokevirtual 115, 3) := by decide +kernel
theorem dL_1111 : decode code 1111 = .ok (.if_icmp .eq 61, 3) := by decide +kernel
theorem dL_1114 : decode code 1114 = .ok (.iconst 0, 1) := by decide +kernel
theorem dL_1115 : decode code 1115 = .ok (.ireturn, 1) := by decide +kernel
theorem dL_1116 : decode code 1116 = .ok (.aload_n 1, 1) := by decide +kernel
theorem dL_1117 : decode code 1117 = .ok (.aload_n 0, 1) := by decide +kernel
theorem dL_1118 : decode code 1118 = .ok (.iload_n 3, 1) := by decide +kernel
theorem dL_1119 : decode code 1119 = .ok (.iconst 1, 1) := by decide +kernel
theorem dL_1120 : decode code 1120 = .ok (.iadd, 1) := by decide +kernel
theorem dL_1121 : decode code 1121 = .ok (.iaload, 1) := by decide +kernel
theorem dL_1122 : decode code 1122 = .ok (.aload_n 0, 1) := by decide +kernel
theorem dL_1123 : decode code 1123 = .ok (.iload_n 3, 1) := by decide +kernel
theorem dL_1124 : decode code 1124 = .ok (.iconst 2, 1) := by decide +kernel
theorem dL_1125 : decode code 1125 = .ok (.iadd, 1) := by decide +kernel
theorem dL_1126 : decode code 1126 = .ok (.iaload, 1) := by decide +kernel
theorem dL_1127 : decode code 1127 = .ok (.invokevirtual 116, 3) := by decide +kernel
theorem dL_1130 : decode code 1130 = .ok (.aload_n 2, 1) := by decide +kernel
theorem dL_1131 : decode code 1131 = .ok (.aload_n 0, 1) := by decide +kernel
theorem dL_1132 : decode code 1132 = .ok (.iload_n 3, 1) := by decide +kernel
theorem dL_1133 : decode code 1133 = .ok (.iconst 1, 1) := by decide +kernel
theorem dL_1134 : decode code 1134 = .ok (.iadd, 1) := by decide +kernel
theorem dL_1135 : decode code 1135 = .ok (.iaload, 1) := by decide +kernel
theorem dL_1136 : decode code 1136 = .ok (.aload_n 0, 1) := by decide +kernel
theorem dL_1137 : decode code 1137 = .ok (.iload_n 3, 1) := by decide +kernel
theorem dL_1138 : decode code 1138 = .ok (.iconst 2, 1) := by decide +kernel
theorem dL_1139 : decode code 1139 = .ok (.iadd, 1) := by decide +kernel
theorem dL_1140 : decode code 1140 = .ok (.iaload, 1) := by decide +kernel
theorem dL_1141 : decode code 1141 = .ok (.invokevirtual 119, 3) := by decide +kernel
theorem dL_1144 : decode code 1144 = .ok (.if_icmp .eq 28, 3) := by decide +kernel
theorem dL_1147 : decode code 1147 = .ok (.iconst 0, 1) := by decide +kernel
theorem dL_1148 : decode code 1148 = .ok (.ireturn, 1) := by decide +kernel
theorem dL_1149 : decode code 1149 = .ok (.aload_n 1, 1) := by decide +kernel
theorem dL_1150 : decode code 1150 = .ok (.aload_n 0, 1) := by decide +kernel
theorem dL_1151 : decode code 1151 = .ok (.iload_n 3, 1) := by decide +kernel
theorem dL_1152 : decode code 1152 = .ok (.iconst 1, 1) := by decide +kernel
theorem dL_1153 : decode code 1153 = .ok (.iadd, 1) := by decide +kernel
theorem dL_1154 : decode code 1154 = .ok (.iaload, 1) := by decide +kernel
theorem dL_1155 : decode code 1155 = .ok (.invokevirtual 120, 3) := by decide +kernel
theorem dL_1158 : decode code 1158 = .ok (.aload_n 2, 1) := by decide +kernel
theorem dL_1159 : decode code 1159 = .ok (.aload_n 0, 1) := by decide +kernel
theorem dL_1160 : decode code 1160 = .ok (.iload_n 3, 1) := by decide +kernel
theorem dL_1161 : decode code 1161 = .ok (.iconst 1, 1) := by decide +kernel
theorem dL_1162 : decode code 1162 = .ok (.iadd, 1) := by decide +kernel
theorem dL_1163 : decode code 1163 = .ok (.iaload, 1) := by decide +kernel
theorem dL_1164 : decode code 1164 = .ok (.invokevirtual 123, 3) := by decide +kernel
theorem dL_1167 : decode code 1167 = .ok (.if_icmp .eq 5, 3) := by decide +kernel
theorem dL_1170 : decode code 1170 = .ok (.iconst 0, 1) := by decide +kernel
theorem dL_1171 : decode code 1171 = .ok (.ireturn, 1) := by decide +kernel
theorem dL_1172 : decode code 1172 = .ok (.iinc 3 7, 3) := by decide +kernel
theorem dL_1175 : decode code 1175 = .ok (.goto (-1157), 3) := by decide +kernel
theorem dL_1178 : decode code 1178 = .ok (.iconst 1, 1) := by decide +kernel
theorem dL_1179 : decode code 1179 = .ok (.ireturn, 1) := by decide +kernel
