/-! ScriptLedgerLaw.law([I)Z -/
theorem jd_138_0 : decode code 0 = .ok (.new 7, 3) := by decide +kernel
theorem jd_138_3 : decode code 3 = .ok (.dup, 1) := by decide +kernel
theorem jd_138_4 : decode code 4 = .ok (.aload_n 0, 1) := by decide +kernel
theorem jd_138_5 : decode code 5 = .ok (.iconst 0, 1) := by decide +kernel
theorem jd_138_6 : decode code 6 = .ok (.invokestatic 9, 3) := by decide +kernel
theorem jd_138_9 : decode code 9 = .ok (.invokespecial 15, 3) := by decide +kernel
theorem jd_138_12 : decode code 12 = .ok (.astore_n 1, 1) := by decide +kernel
theorem jd_138_13 : decode code 13 = .ok (.new 18, 3) := by decide +kernel
theorem jd_138_16 : decode code 16 = .ok (.dup, 1) := by decide +kernel
theorem jd_138_17 : decode code 17 = .ok (.aload_n 0, 1) := by decide +kernel
theorem jd_138_18 : decode code 18 = .ok (.iconst 0, 1) := by decide +kernel
theorem jd_138_19 : decode code 19 = .ok (.invokestatic 9, 3) := by decide +kernel
theorem jd_138_22 : decode code 22 = .ok (.invokespecial 20, 3) := by decide +kernel
theorem jd_138_25 : decode code 25 = .ok (.astore_n 2, 1) := by decide +kernel
theorem jd_138_26 : decode code 26 = .ok (.iconst 1, 1) := by decide +kernel
theorem jd_138_27 : decode code 27 = .ok (.istore_n 3, 1) := by decide +kernel
theorem jd_138_28 : decode code 28 = .ok (.iload_n 3, 1) := by decide +kernel
theorem jd_138_29 : decode code 29 = .ok (.aload_n 0, 1) := by decide +kernel
theorem jd_138_30 : decode code 30 = .ok (.arraylength, 1) := by decide +kernel
theorem jd_138_31 : decode code 31 = .ok (.bipush 6, 2) := by decide +kernel
theorem jd_138_33 : decode code 33 = .ok (.isub, 1) := by decide +kernel
theorem jd_138_34 : decode code 34 = .ok (.if_icmp .gt 632, 3) := by decide +kernel
theorem jd_138_37 : decode code 37 = .ok (.aload_n 0, 1) := by decide +kernel
theorem jd_138_38 : decode code 38 = .ok (.iload_n 3, 1) := by decide +kernel
theorem jd_138_39 : decode code 39 = .ok (.iaload, 1) := by decide +kernel
theorem jd_138_40 : decode code 40 = .ok (.bipush 31, 2) := by decide +kernel
theorem jd_138_42 : decode code 42 = .ok (.iand, 1) := by decide +kernel
theorem jd_138_43 : decode code 43 = .ok (.tableswitch 617 0 17 #[85, 148, 161, 214, 237, 248, 281, 344, 387, 450, 473, 486, 499, 522, 535, 568, 591, 604], 85) := by decide +kernel
theorem jd_138_128 : decode code 128 = .ok (.aload_n 1, 1) := by decide +kernel
theorem jd_138_129 : decode code 129 = .ok (.aload_n 0, 1) := by decide +kernel
theorem jd_138_130 : decode code 130 = .ok (.iload_n 3, 1) := by decide +kernel
theorem jd_138_131 : decode code 131 = .ok (.iconst 1, 1) := by decide +kernel
theorem jd_138_132 : decode code 132 = .ok (.iadd, 1) := by decide +kernel
theorem jd_138_133 : decode code 133 = .ok (.iaload, 1) := by decide +kernel
theorem jd_138_134 : decode code 134 = .ok (.i2l, 1) := by decide +kernel
theorem jd_138_135 : decode code 135 = .ok (.bipush 32, 2) := by decide +kernel
theorem jd_138_137 : decode code 137 = .ok (.lshl, 1) := by decide +kernel
theorem jd_138_138 : decode code 138 = .ok (.aload_n 0, 1) := by decide +kernel
theorem jd_138_139 : decode code 139 = .ok (.iload_n 3, 1) := by decide +kernel
theorem jd_138_140 : decode code 140 = .ok (.iconst 2, 1) := by decide +kernel
theorem jd_138_141 : decode code 141 = .ok (.iadd, 1) := by decide +kernel
theorem jd_138_142 : decode code 142 = .ok (.iaload, 1) := by decide +kernel
theorem jd_138_143 : decode code 143 = .ok (.i2l, 1) := by decide +kernel
theorem jd_138_144 : decode code 144 = .ok (.ldc2_w 21, 3) := by decide +kernel
theorem jd_138_147 : decode code 147 = .ok (.land, 1) := by decide +kernel
theorem jd_138_148 : decode code 148 = .ok (.lor, 1) := by decide +kernel
theorem jd_138_149 : decode code 149 = .ok (.aload_n 0, 1) := by decide +kernel
theorem jd_138_150 : decode code 150 = .ok (.iload_n 3, 1) := by decide +kernel
theorem jd_138_151 : decode code 151 = .ok (.iconst 3, 1) := by decide +kernel
theorem jd_138_152 : decode code 152 = .ok (.iadd, 1) := by decide +kernel
theorem jd_138_153 : decode code 153 = .ok (.iaload, 1) := by decide +kernel
theorem jd_138_154 : decode code 154 = .ok (.invokevirtual 23, 3) := by decide +kernel
theorem jd_138_157 : decode code 157 = .ok (.aload_n 2, 1) := by decide +kernel
theorem jd_138_158 : decode code 158 = .ok (.aload_n 0, 1) := by decide +kernel
theorem jd_138_159 : decode code 159 = .ok (.iload_n 3, 1) := by decide +kernel
theorem jd_138_160 : decode code 160 = .ok (.iconst 1, 1) := by decide +kernel
theorem jd_138_161 : decode code 161 = .ok (.iadd, 1) := by decide +kernel
theorem jd_138_162 : decode code 162 = .ok (.iaload, 1) := by decide +kernel
theorem jd_138_163 : decode code 163 = .ok (.i2l, 1) := by decide +kernel
theorem jd_138_164 : decode code 164 = .ok (.bipush 32, 2) := by decide +kernel
theorem jd_138_166 : decode code 166 = .ok (.lshl, 1) := by decide +kernel
theorem jd_138_167 : decode code 167 = .ok (.aload_n 0, 1) := by decide +kernel
theorem jd_138_168 : decode code 168 = .ok (.iload_n 3, 1) := by decide +kernel
theorem jd_138_169 : decode code 169 = .ok (.iconst 2, 1) := by decide +kernel
theorem jd_138_170 : decode code 170 = .ok (.iadd, 1) := by decide +kernel
theorem jd_138_171 : decode code 171 = .ok (.iaload, 1) := by decide +kernel
theorem jd_138_172 : decode code 172 = .ok (.i2l, 1) := by decide +kernel
theorem jd_138_173 : decode code 173 = .ok (.ldc2_w 21, 3) := by decide +kernel
theorem jd_138_176 : decode code 176 = .ok (.land, 1) := by decide +kernel
theorem jd_138_177 : decode code 177 = .ok (.lor, 1) := by decide +kernel
theorem jd_138_178 : decode code 178 = .ok (.aload_n 0, 1) := by decide +kernel
theorem jd_138_179 : decode code 179 = .ok (.iload_n 3, 1) := by decide +kernel
theorem jd_138_180 : decode code 180 = .ok (.iconst 3, 1) := by decide +kernel
theorem jd_138_181 : decode code 181 = .ok (.iadd, 1) := by decide +kernel
theorem jd_138_182 : decode code 182 = .ok (.iaload, 1) := by decide +kernel
theorem jd_138_183 : decode code 183 = .ok (.invokevirtual 27, 3) := by decide +kernel
theorem jd_138_186 : decode code 186 = .ok (.if_icmp .eq 474, 3) := by decide +kernel
theorem jd_138_189 : decode code 189 = .ok (.iconst 0, 1) := by decide +kernel
theorem jd_138_190 : decode code 190 = .ok (.ireturn, 1) := by decide +kernel
theorem jd_138_191 : decode code 191 = .ok (.aload_n 1, 1) := by decide +kernel
theorem jd_138_192 : decode code 192 = .ok (.invokevirtual 28, 3) := by decide +kernel
theorem jd_138_195 : decode code 195 = .ok (.aload_n 2, 1) := by decide +kernel
theorem jd_138_196 : decode code 196 = .ok (.invokevirtual 32, 3) := by decide +kernel
theorem jd_138_199 : decode code 199 = .ok (.if_icmp .eq 461, 3) := by decide +kernel
theorem jd_138_202 : decode code 202 = .ok (.iconst 0, 1) := by decide +kernel
theorem jd_138_203 : decode code 203 = .ok (.ireturn, 1) := by decide +kernel
theorem jd_138_204 : decode code 204 = .ok (.aload_n 1, 1) := by decide +kernel
theorem jd_138_205 : decode code 205 = .ok (.aload_n 0, 1) := by decide +kernel
theorem jd_138_206 : decode code 206 = .ok (.iload_n 3, 1) := by decide +kernel
theorem jd_138_207 : decode code 207 = .ok (.iconst 1, 1) := by decide +kernel
theorem jd_138_208 : decode code 208 = .ok (.iadd, 1) := by decide +kernel
theorem jd_138_209 : decode code 209 = .ok (.iaload, 1) := by decide +kernel
theorem jd_138_210 : decode code 210 = .ok (.aload_n 0, 1) := by decide +kernel
theorem jd_138_211 : decode code 211 = .ok (.iload_n 3, 1) := by decide +kernel
theorem jd_138_212 : decode code 212 = .ok (.iconst 2, 1) := by decide +kernel
theorem jd_138_213 : decode code 213 = .ok (.iadd, 1) := by decide +kernel
theorem jd_138_214 : decode code 214 = .ok (.iaload, 1) := by decide +kernel
theorem jd_138_215 : decode code 215 = .ok (.aload_n 0, 1) := by decide +kernel
theorem jd_138_216 : decode code 216 = .ok (.iload_n 3, 1) := by decide +kernel
theorem jd_138_217 : decode code 217 = .ok (.iconst 3, 1) := by decide +kernel
theorem jd_138_218 : decode code 218 = .ok (.iadd, 1) := by decide +kernel
theorem jd_138_219 : decode code 219 = .ok (.iaload, 1) := by decide +kernel
theorem jd_138_220 : decode code 220 = .ok (.aload_n 0, 1) := by decide +kernel
theorem jd_138_221 : decode code 221 = .ok (.iload_n 3, 1) := by decide +kernel
theorem jd_138_222 : decode code 222 = .ok (.iconst 4, 1) := by decide +kernel
theorem jd_138_223 : decode code 223 = .ok (.iadd, 1) := by decide +kernel
theorem jd_138_224 : decode code 224 = .ok (.iaload, 1) := by decide +kernel
theorem jd_138_225 : decode code 225 = .ok (.invokevirtual 33, 3) := by decide +kernel
theorem jd_138_228 : decode code 228 = .ok (.aload_n 2, 1) := by decide +kernel
theorem jd_138_229 : decode code 229 = .ok (.aload_n 0, 1) := by decide +kernel
theorem jd_138_230 : decode code 230 = .ok (.iload_n 3, 1) := by decide +kernel
theorem jd_138_231 : decode code 231 = .ok (.iconst 1, 1) := by decide +kernel
theorem jd_138_232 : decode code 232 = .ok (.iadd, 1) := by decide +kernel
theorem jd_138_233 : decode code 233 = .ok (.iaload, 1) := by decide +kernel
theorem jd_138_234 : decode code 234 = .ok (.aload_n 0, 1) := by decide +kernel
theorem jd_138_235 : decode code 235 = .ok (.iload_n 3, 1) := by decide +kernel
theorem jd_138_236 : decode code 236 = .ok (.iconst 2, 1) := by decide +kernel
theorem jd_138_237 : decode code 237 = .ok (.iadd, 1) := by decide +kernel
theorem jd_138_238 : decode code 238 = .ok (.iaload, 1) := by decide +kernel
theorem jd_138_239 : decode code 239 = .ok (.aload_n 0, 1) := by decide +kernel
theorem jd_138_240 : decode code 240 = .ok (.iload_n 3, 1) := by decide +kernel
theorem jd_138_241 : decode code 241 = .ok (.iconst 3, 1) := by decide +kernel
theorem jd_138_242 : decode code 242 = .ok (.iadd, 1) := by decide +kernel
theorem jd_138_243 : decode code 243 = .ok (.iaload, 1) := by decide +kernel
theorem jd_138_244 : decode code 244 = .ok (.aload_n 0, 1) := by decide +kernel
theorem jd_138_245 : decode code 245 = .ok (.iload_n 3, 1) := by decide +kernel
theorem jd_138_246 : decode code 246 = .ok (.iconst 4, 1) := by decide +kernel
theorem jd_138_247 : decode code 247 = .ok (.iadd, 1) := by decide +kernel
theorem jd_138_248 : decode code 248 = .ok (.iaload, 1) := by decide +kernel
theorem jd_138_249 : decode code 249 = .ok (.invokevirtual 37, 3) := by decide +kernel
theorem jd_138_252 : decode code 252 = .ok (.if_icmp .eq 408, 3) := by decide +kernel
theorem jd_138_255 : decode code 255 = .ok (.iconst 0, 1) := by decide +kernel
theorem jd_138_256 : decode code 256 = .ok (.ireturn, 1) := by decide +kernel
theorem jd_138_257 : decode code 257 = .ok (.aload_n 1, 1) := by decide +kernel
theorem jd_138_258 : decode code 258 = .ok (.aload_n 0, 1) := by decide +kernel
theorem jd_138_259 : decode code 259 = .ok (.iload_n 3, 1) := by decide +kernel
theorem jd_138_260 : decode code 260 = .ok (.iconst 1, 1) := by decide +kernel
theorem jd_138_261 : decode code 261 = .ok (.iadd, 1) := by decide +kernel
theorem jd_138_262 : decode code 262 = .ok (.iaload, 1) := by decide +kernel
theorem jd_138_263 : decode code 263 = .ok (.invokevirtual 38, 3) := by decide +kernel
theorem jd_138_266 : decode code 266 = .ok (.aload_n 2, 1) := by decide +kernel
theorem jd_138_267 : decode code 267 = .ok (.aload_n 0, 1) := by decide +kernel
theorem jd_138_268 : decode code 268 = .ok (.iload_n 3, 1) := by decide +kernel
theorem jd_138_269 : decode code 269 = .ok (.iconst 1, 1) := by decide +kernel
theorem jd_138_270 : decode code 270 = .ok (.iadd, 1) := by decide +kernel
theorem jd_138_271 : decode code 271 = .ok (.iaload, 1) := by decide +kernel
theorem jd_138_272 : decode code 272 = .ok (.invokevirtual 42, 3) := by decide +kernel
theorem jd_138_275 : decode code 275 = .ok (.if_icmp .eq 385, 3) := by decide +kernel
theorem jd_138_278 : decode code 278 = .ok (.iconst 0, 1) := by decide +kernel
theorem jd_138_279 : decode code 279 = .ok (.ireturn, 1) := by decide +kernel
theorem jd_138_280 : decode code 280 = .ok (.aload_n 1, 1) := by decide +kernel
theorem jd_138_281 : decode code 281 = .ok (.invokevirtual 43, 3) := by decide +kernel
theorem jd_138_284 : decode code 284 = .ok (.aload_n 2, 1) := by decide +kernel
theorem jd_138_285 : decode code 285 = .ok (.invokevirtual 46, 3) := by decide +kernel
theorem jd_138_288 : decode code 288 = .ok (.goto 372, 3) := by decide +kernel
theorem jd_138_291 : decode code 291 = .ok (.aload_n 1, 1) := by decide +kernel
theorem jd_138_292 : decode code 292 = .ok (.aload_n 0, 1) := by decide +kernel
theorem jd_138_293 : decode code 293 = .ok (.iload_n 3, 1) := by decide +kernel
theorem jd_138_294 : decode code 294 = .ok (.iconst 1, 1) := by decide +kernel
theorem jd_138_295 : decode code 295 = .ok (.iadd, 1) := by decide +kernel
theorem jd_138_296 : decode code 296 = .ok (.iaload, 1) := by decide +kernel
theorem jd_138_297 : decode code 297 = .ok (.aload_n 0, 1) := by decide +kernel
theorem jd_138_298 : decode code 298 = .ok (.iload_n 3, 1) := by decide +kernel
theorem jd_138_299 : decode code 299 = .ok (.iconst 2, 1) := by decide +kernel
theorem jd_138_300 : decode code 300 = .ok (.iadd, 1) := by decide +kernel
theorem jd_138_301 : decode code 301 = .ok (.iaload, 1) := by decide +kernel
theorem jd_138_302 : decode code 302 = .ok (.invokevirtual 47, 3) := by decide +kernel
theorem jd_138_305 : decode code 305 = .ok (.aload_n 2, 1) := by decide +kernel
theorem jd_138_306 : decode code 306 = .ok (.aload_n 0, 1) := by decide +kernel
theorem jd_138_307 : decode code 307 = .ok (.iload_n 3, 1) := by decide +kernel
theorem jd_138_308 : decode code 308 = .ok (.iconst 1, 1) := by decide +kernel
theorem jd_138_309 : decode code 309 = .ok (.iadd, 1) := by decide +kernel
theorem jd_138_310 : decode code 310 = .ok (.iaload, 1) := by decide +kernel
theorem jd_138_311 : decode code 311 = .ok (.aload_n 0, 1) := by decide +kernel
theorem jd_138_312 : decode code 312 = .ok (.iload_n 3, 1) := by decide +kernel
theorem jd_138_313 : decode code 313 = .ok (.iconst 2, 1) := by decide +kernel
theorem jd_138_314 : decode code 314 = .ok (.iadd, 1) := by decide +kernel
theorem jd_138_315 : decode code 315 = .ok (.iaload, 1) := by decide +kernel
theorem jd_138_316 : decode code 316 = .ok (.invokevirtual 51, 3) := by decide +kernel
theorem jd_138_319 : decode code 319 = .ok (.if_icmp .eq 341, 3) := by decide +kernel
theorem jd_138_322 : decode code 322 = .ok (.iconst 0, 1) := by decide +kernel
theorem jd_138_323 : decode code 323 = .ok (.ireturn, 1) := by decide +kernel
theorem jd_138_324 : decode code 324 = .ok (.aload_n 1, 1) := by decide +kernel
theorem jd_138_325 : decode code 325 = .ok (.aload_n 0, 1) := by decide +kernel
theorem jd_138_326 : decode code 326 = .ok (.iload_n 3, 1) := by decide +kernel
theorem jd_138_327 : decode code 327 = .ok (.iconst 1, 1) := by decide +kernel
theorem jd_138_328 : decode code 328 = .ok (.iadd, 1) := by decide +kernel
theorem jd_138_329 : decode code 329 = .ok (.iaload, 1) := by decide +kernel
theorem jd_138_330 : decode code 330 = .ok (.aload_n 0, 1) := by decide +kernel
theorem jd_138_331 : decode code 331 = .ok (.iload_n 3, 1) := by decide +kernel
theorem jd_138_332 : decode code 332 = .ok (.iconst 2, 1) := by decide +kernel
theorem jd_138_333 : decode code 333 = .ok (.iadd, 1) := by decide +kernel
theorem jd_138_334 : decode code 334 = .ok (.iaload, 1) := by decide +kernel
theorem jd_138_335 : decode code 335 = .ok (.aload_n 0, 1) := by decide +kernel
theorem jd_138_336 : decode code 336 = .ok (.iload_n 3, 1) := by decide +kernel
theorem jd_138_337 : decode code 337 = .ok (.iconst 3, 1) := by decide +kernel
theorem jd_138_338 : decode code 338 = .ok (.iadd, 1) := by decide +kernel
theorem jd_138_339 : decode code 339 = .ok (.iaload, 1) := by decide +kernel
theorem jd_138_340 : decode code 340 = .ok (.aload_n 0, 1) := by decide +kernel
theorem jd_138_341 : decode code 341 = .ok (.iload_n 3, 1) := by decide +kernel
theorem jd_138_342 : decode code 342 = .ok (.iconst 4, 1) := by decide +kernel
theorem jd_138_343 : decode code 343 = .ok (.iadd, 1) := by decide +kernel
theorem jd_138_344 : decode code 344 = .ok (.iaload, 1) := by decide +kernel
theorem jd_138_345 : decode code 345 = .ok (.aload_n 0, 1) := by decide +kernel
theorem jd_138_346 : decode code 346 = .ok (.iload_n 3, 1) := by decide +kernel
theorem jd_138_347 : decode code 347 = .ok (.iconst 5, 1) := by decide +kernel
theorem jd_138_348 : decode code 348 = .ok (.iadd, 1) := by decide +kernel
theorem jd_138_349 : decode code 349 = .ok (.iaload, 1) := by decide +kernel
theorem jd_138_350 : decode code 350 = .ok (.invokevirtual 52, 3) := by decide +kernel
theorem jd_138_353 : decode code 353 = .ok (.aload_n 2, 1) := by decide +kernel
theorem jd_138_354 : decode code 354 = .ok (.aload_n 0, 1) := by decide +kernel
theorem jd_138_355 : decode code 355 = .ok (.iload_n 3, 1) := by decide +kernel
theorem jd_138_356 : decode code 356 = .ok (.iconst 1, 1) := by decide +kernel
theorem jd_138_357 : decode code 357 = .ok (.iadd, 1) := by decide +kernel
theorem jd_138_358 : decode code 358 = .ok (.iaload, 1) := by decide +kernel
theorem jd_138_359 : decode code 359 = .ok (.aload_n 0, 1) := by decide +kernel
theorem jd_138_360 : decode code 360 = .ok (.iload_n 3, 1) := by decide +kernel
theorem jd_138_361 : decode code 361 = .ok (.iconst 2, 1) := by decide +kernel
theorem jd_138_362 : decode code 362 = .ok (.iadd, 1) := by decide +kernel
theorem jd_138_363 : decode code 363 = .ok (.iaload, 1) := by decide +kernel
theorem jd_138_364 : decode code 364 = .ok (.aload_n 0, 1) := by decide +kernel
theorem jd_138_365 : decode code 365 = .ok (.iload_n 3, 1) := by decide +kernel
theorem jd_138_366 : decode code 366 = .ok (.iconst 3, 1) := by decide +kernel
theorem jd_138_367 : decode code 367 = .ok (.iadd, 1) := by decide +kernel
theorem jd_138_368 : decode code 368 = .ok (.iaload, 1) := by decide +kernel
theorem jd_138_369 : decode code 369 = .ok (.aload_n 0, 1) := by decide +kernel
theorem jd_138_370 : decode code 370 = .ok (.iload_n 3, 1) := by decide +kernel
theorem jd_138_371 : decode code 371 = .ok (.iconst 4, 1) := by decide +kernel
theorem jd_138_372 : decode code 372 = .ok (.iadd, 1) := by decide +kernel
theorem jd_138_373 : decode code 373 = .ok (.iaload, 1) := by decide +kernel
theorem jd_138_374 : decode code 374 = .ok (.aload_n 0, 1) := by decide +kernel
theorem jd_138_375 : decode code 375 = .ok (.iload_n 3, 1) := by decide +kernel
theorem jd_138_376 : decode code 376 = .ok (.iconst 5, 1) := by decide +kernel
theorem jd_138_377 : decode code 377 = .ok (.iadd, 1) := by decide +kernel
theorem jd_138_378 : decode code 378 = .ok (.iaload, 1) := by decide +kernel
theorem jd_138_379 : decode code 379 = .ok (.invokevirtual 56, 3) := by decide +kernel
theorem jd_138_382 : decode code 382 = .ok (.if_icmp .eq 278, 3) := by decide +kernel
theorem jd_138_385 : decode code 385 = .ok (.iconst 0, 1) := by decide +kernel
theorem jd_138_386 : decode code 386 = .ok (.ireturn, 1) := by decide +kernel
theorem jd_138_387 : decode code 387 = .ok (.aload_n 1, 1) := by decide +kernel
theorem jd_138_388 : decode code 388 = .ok (.aload_n 0, 1) := by decide +kernel
theorem jd_138_389 : decode code 389 = .ok (.iload_n 3, 1) := by decide +kernel
theorem jd_138_390 : decode code 390 = .ok (.iconst 1, 1) := by decide +kernel
theorem jd_138_391 : decode code 391 = .ok (.iadd, 1) := by decide +kernel
theorem jd_138_392 : decode code 392 = .ok (.iaload, 1) := by decide +kernel
theorem jd_138_393 : decode code 393 = .ok (.aload_n 0, 1) := by decide +kernel
theorem jd_138_394 : decode code 394 = .ok (.iload_n 3, 1) := by decide +kernel
theorem jd_138_395 : decode code 395 = .ok (.iconst 2, 1) := by decide +kernel
theorem jd_138_396 : decode code 396 = .ok (.iadd, 1) := by decide +kernel
theorem jd_138_397 : decode code 397 = .ok (.iaload, 1) := by decide +kernel
theorem jd_138_398 : decode code 398 = .ok (.aload_n 0, 1) := by decide +kernel
theorem jd_138_399 : decode code 399 = .ok (.iload_n 3, 1) := by decide +kernel
theorem jd_138_400 : decode code 400 = .ok (.iconst 3, 1) := by decide +kernel
theorem jd_138_401 : decode code 401 = .ok (.iadd, 1) := by decide +kernel
theorem jd_138_402 : decode code 402 = .ok (.iaload, 1) := by decide +kernel
theorem jd_138_403 : decode code 403 = .ok (.invokevirtual 57, 3) := by decide +kernel
theorem jd_138_406 : decode code 406 = .ok (.aload_n 2, 1) := by decide +kernel
theorem jd_138_407 : decode code 407 = .ok (.aload_n 0, 1) := by decide +kernel
theorem jd_138_408 : decode code 408 = .ok (.iload_n 3, 1) := by decide +kernel
theorem jd_138_409 : decode code 409 = .ok (.iconst 1, 1) := by decide +kernel
theorem jd_138_410 : decode code 410 = .ok (.iadd, 1) := by decide +kernel
theorem jd_138_411 : decode code 411 = .ok (.iaload, 1) := by decide +kernel
theorem jd_138_412 : decode code 412 = .ok (.aload_n 0, 1) := by decide +kernel
theorem jd_138_413 : decode code 413 = .ok (.iload_n 3, 1) := by decide +kernel
theorem jd_138_414 : decode code 414 = .ok (.iconst 2, 1) := by decide +kernel
theorem jd_138_415 : decode code 415 = .ok (.iadd, 1) := by decide +kernel
theorem jd_138_416 : decode code 416 = .ok (.iaload, 1) := by decide +kernel
theorem jd_138_417 : decode code 417 = .ok (.aload_n 0, 1) := by decide +kernel
theorem jd_138_418 : decode code 418 = .ok (.iload_n 3, 1) := by decide +kernel
theorem jd_138_419 : decode code 419 = .ok (.iconst 3, 1) := by decide +kernel
theorem jd_138_420 : decode code 420 = .ok (.iadd, 1) := by decide +kernel
theorem jd_138_421 : decode code 421 = .ok (.iaload, 1) := by decide +kernel
theorem jd_138_422 : decode code 422 = .ok (.invokevirtual 61, 3) := by decide +kernel
theorem jd_138_425 : decode code 425 = .ok (.if_icmp .eq 235, 3) := by decide +kernel
theorem jd_138_428 : decode code 428 = .ok (.iconst 0, 1) := by decide +kernel
theorem jd_138_429 : decode code 429 = .ok (.ireturn, 1) := by decide +kernel
theorem jd_138_430 : decode code 430 = .ok (.aload_n 1, 1) := by decide +kernel
theorem jd_138_431 : decode code 431 = .ok (.aload_n 0, 1) := by decide +kernel
theorem jd_138_432 : decode code 432 = .ok (.iload_n 3, 1) := by decide +kernel
theorem jd_138_433 : decode code 433 = .ok (.iconst 1, 1) := by decide +kernel
theorem jd_138_434 : decode code 434 = .ok (.iadd, 1) := by decide +kernel
theorem jd_138_435 : decode code 435 = .ok (.iaload, 1) := by decide +kernel
theorem jd_138_436 : decode code 436 = .ok (.aload_n 0, 1) := by decide +kernel
theorem jd_138_437 : decode code 437 = .ok (.iload_n 3, 1) := by decide +kernel
theorem jd_138_438 : decode code 438 = .ok (.iconst 2, 1) := by decide +kernel
theorem jd_138_439 : decode code 439 = .ok (.iadd, 1) := by decide +kernel
theorem jd_138_440 : decode code 440 = .ok (.iaload, 1) := by decide +kernel
theorem jd_138_441 : decode code 441 = .ok (.aload_n 0, 1) := by decide +kernel
theorem jd_138_442 : decode code 442 = .ok (.iload_n 3, 1) := by decide +kernel
theorem jd_138_443 : decode code 443 = .ok (.iconst 3, 1) := by decide +kernel
theorem jd_138_444 : decode code 444 = .ok (.iadd, 1) := by decide +kernel
theorem jd_138_445 : decode code 445 = .ok (.iaload, 1) := by decide +kernel
theorem jd_138_446 : decode code 446 = .ok (.aload_n 0, 1) := by decide +kernel
theorem jd_138_447 : decode code 447 = .ok (.iload_n 3, 1) := by decide +kernel
theorem jd_138_448 : decode code 448 = .ok (.iconst 4, 1) := by decide +kernel
theorem jd_138_449 : decode code 449 = .ok (.iadd, 1) := by decide +kernel
theorem jd_138_450 : decode code 450 = .ok (.iaload, 1) := by decide +kernel
theorem jd_138_451 : decode code 451 = .ok (.aload_n 0, 1) := by decide +kernel
theorem jd_138_452 : decode code 452 = .ok (.iload_n 3, 1) := by decide +kernel
theorem jd_138_453 : decode code 453 = .ok (.iconst 5, 1) := by decide +kernel
theorem jd_138_454 : decode code 454 = .ok (.iadd, 1) := by decide +kernel
theorem jd_138_455 : decode code 455 = .ok (.iaload, 1) := by decide +kernel
theorem jd_138_456 : decode code 456 = .ok (.invokevirtual 62, 3) := by decide +kernel
theorem jd_138_459 : decode code 459 = .ok (.aload_n 2, 1) := by decide +kernel
theorem jd_138_460 : decode code 460 = .ok (.aload_n 0, 1) := by decide +kernel
theorem jd_138_461 : decode code 461 = .ok (.iload_n 3, 1) := by decide +kernel
theorem jd_138_462 : decode code 462 = .ok (.iconst 1, 1) := by decide +kernel
theorem jd_138_463 : decode code 463 = .ok (.iadd, 1) := by decide +kernel
theorem jd_138_464 : decode code 464 = .ok (.iaload, 1) := by decide +kernel
theorem jd_138_465 : decode code 465 = .ok (.aload_n 0, 1) := by decide +kernel
theorem jd_138_466 : decode code 466 = .ok (.iload_n 3, 1) := by decide +kernel
theorem jd_138_467 : decode code 467 = .ok (.iconst 2, 1) := by decide +kernel
theorem jd_138_468 : decode code 468 = .ok (.iadd, 1) := by decide +kernel
theorem jd_138_469 : decode code 469 = .ok (.iaload, 1) := by decide +kernel
theorem jd_138_470 : decode code 470 = .ok (.aload_n 0, 1) := by decide +kernel
theorem jd_138_471 : decode code 471 = .ok (.iload_n 3, 1) := by decide +kernel
theorem jd_138_472 : decode code 472 = .ok (.iconst 3, 1) := by decide +kernel
theorem jd_138_473 : decode code 473 = .ok (.iadd, 1) := by decide +kernel
theorem jd_138_474 : decode code 474 = .ok (.iaload, 1) := by decide +kernel
theorem jd_138_475 : decode code 475 = .ok (.aload_n 0, 1) := by decide +kernel
theorem jd_138_476 : decode code 476 = .ok (.iload_n 3, 1) := by decide +kernel
theorem jd_138_477 : decode code 477 = .ok (.iconst 4, 1) := by decide +kernel
theorem jd_138_478 : decode code 478 = .ok (.iadd, 1) := by decide +kernel
theorem jd_138_479 : decode code 479 = .ok (.iaload, 1) := by decide +kernel
theorem jd_138_480 : decode code 480 = .ok (.aload_n 0, 1) := by decide +kernel
theorem jd_138_481 : decode code 481 = .ok (.iload_n 3, 1) := by decide +kernel
theorem jd_138_482 : decode code 482 = .ok (.iconst 5, 1) := by decide +kernel
theorem jd_138_483 : decode code 483 = .ok (.iadd, 1) := by decide +kernel
theorem jd_138_484 : decode code 484 = .ok (.iaload, 1) := by decide +kernel
theorem jd_138_485 : decode code 485 = .ok (.invokevirtual 65, 3) := by decide +kernel
theorem jd_138_488 : decode code 488 = .ok (.if_icmp .eq 172, 3) := by decide +kernel
theorem jd_138_491 : decode code 491 = .ok (.iconst 0, 1) := by decide +kernel
theorem jd_138_492 : decode code 492 = .ok (.ireturn, 1) := by decide +kernel
theorem jd_138_493 : decode code 493 = .ok (.aload_n 1, 1) := by decide +kernel
theorem jd_138_494 : decode code 494 = .ok (.aload_n 0, 1) := by decide +kernel
theorem jd_138_495 : decode code 495 = .ok (.iload_n 3, 1) := by decide +kernel
theorem jd_138_496 : decode code 496 = .ok (.iconst 1, 1) := by decide +kernel
theorem jd_138_497 : decode code 497 = .ok (.iadd, 1) := by decide +kernel
theorem jd_138_498 : decode code 498 = .ok (.iaload, 1) := by decide +kernel
theorem jd_138_499 : decode code 499 = .ok (.invokevirtual 66, 3) := by decide +kernel
theorem jd_138_502 : decode code 502 = .ok (.aload_n 2, 1) := by decide +kernel
theorem jd_138_503 : decode code 503 = .ok (.aload_n 0, 1) := by decide +kernel
theorem jd_138_504 : decode code 504 = .ok (.iload_n 3, 1) := by decide +kernel
theorem jd_138_505 : decode code 505 = .ok (.iconst 1, 1) := by decide +kernel
theorem jd_138_506 : decode code 506 = .ok (.iadd, 1) := by decide +kernel
theorem jd_138_507 : decode code 507 = .ok (.iaload, 1) := by decide +kernel
theorem jd_138_508 : decode code 508 = .ok (.invokevirtual 70, 3) := by decide +kernel
theorem jd_138_511 : decode code 511 = .ok (.if_icmp .eq 149, 3) := by decide +kernel
theorem jd_138_514 : decode code 514 = .ok (.iconst 0, 1) := by decide +kernel
theorem jd_138_515 : decode code 515 = .ok (.ireturn, 1) := by decide +kernel
theorem jd_138_516 : decode code 516 = .ok (.aload_n 1, 1) := by decide +kernel
theorem jd_138_517 : decode code 517 = .ok (.invokevirtual 71, 3) := by decide +kernel
theorem jd_138_520 : decode code 520 = .ok (.aload_n 2, 1) := by decide +kernel
theorem jd_138_521 : decode code 521 = .ok (.invokevirtual 74, 3) := by decide +kernel
theorem jd_138_524 : decode code 524 = .ok (.if_icmp .eq 136, 3) := by decide +kernel
theorem jd_138_527 : decode code 527 = .ok (.iconst 0, 1) := by decide +kernel
theorem jd_138_528 : decode code 528 = .ok (.ireturn, 1) := by decide +kernel
theorem jd_138_529 : decode code 529 = .ok (.aload_n 1, 1) := by decide +kernel
theorem jd_138_530 : decode code 530 = .ok (.invokevirtual 75, 3) := by decide +kernel
theorem jd_138_533 : decode code 533 = .ok (.aload_n 2, 1) := by decide +kernel
theorem jd_138_534 : decode code 534 = .ok (.invokevirtual 78, 3) := by decide +kernel
theorem jd_138_537 : decode code 537 = .ok (.if_icmp .eq 123, 3) := by decide +kernel
theorem jd_138_540 : decode code 540 = .ok (.iconst 0, 1) := by decide +kernel
theorem jd_138_541 : decode code 541 = .ok (.ireturn, 1) := by decide +kernel
theorem jd_138_542 : decode code 542 = .ok (.aload_n 1, 1) := by decide +kernel
theorem jd_138_543 : decode code 543 = .ok (.aload_n 0, 1) := by decide +kernel
theorem jd_138_544 : decode code 544 = .ok (.iload_n 3, 1) := by decide +kernel
theorem jd_138_545 : decode code 545 = .ok (.iconst 1, 1) := by decide +kernel
theorem jd_138_546 : decode code 546 = .ok (.iadd, 1) := by decide +kernel
theorem jd_138_547 : decode code 547 = .ok (.iaload, 1) := by decide +kernel
theorem jd_138_548 : decode code 548 = .ok (.invokevirtual 79, 3) := by decide +kernel
theorem jd_138_551 : decode code 551 = .ok (.aload_n 2, 1) := by decide +kernel
theorem jd_138_552 : decode code 552 = .ok (.aload_n 0, 1) := by decide +kernel
theorem jd_138_553 : decode code 553 = .ok (.iload_n 3, 1) := by decide +kernel
theorem jd_138_554 : decode code 554 = .ok (.iconst 1, 1) := by decide +kernel
theorem jd_138_555 : decode code 555 = .ok (.iadd, 1) := by decide +kernel
theorem jd_138_556 : decode code 556 = .ok (.iaload, 1) := by decide +kernel
theorem jd_138_557 : decode code 557 = .ok (.invokevirtual 82, 3) := by decide +kernel
theorem jd_138_560 : decode code 560 = .ok (.if_icmp .eq 100, 3) := by decide +kernel
theorem jd_138_563 : decode code 563 = .ok (.iconst 0, 1) := by decide +kernel
theorem jd_138_564 : decode code 564 = .ok (.ireturn, 1) := by decide +kernel
theorem jd_138_565 : decode code 565 = .ok (.aload_n 1, 1) := by decide +kernel
theorem jd_138_566 : decode code 566 = .ok (.invokevirtual 83, 3) := by decide +kernel
theorem jd_138_569 : decode code 569 = .ok (.aload_n 2, 1) := by decide +kernel
theorem jd_138_570 : decode code 570 = .ok (.invokevirtual 86, 3) := by decide +kernel
theorem jd_138_573 : decode code 573 = .ok (.if_icmp .eq 87, 3) := by decide +kernel
theorem jd_138_576 : decode code 576 = .ok (.iconst 0, 1) := by decide +kernel
theorem jd_138_577 : decode code 577 = .ok (.ireturn, 1) := by decide +kernel
theorem jd_138_578 : decode code 578 = .ok (.aload_n 1, 1) := by decide +kernel
theorem jd_138_579 : decode code 579 = .ok (.aload_n 0, 1) := by decide +kernel
theorem jd_138_580 : decode code 580 = .ok (.iload_n 3, 1) := by decide +kernel
theorem jd_138_581 : decode code 581 = .ok (.iconst 1, 1) := by decide +kernel
theorem jd_138_582 : decode code 582 = .ok (.iadd, 1) := by decide +kernel
theorem jd_138_583 : decode code 583 = .ok (.iaload, 1) := by decide +kernel
theorem jd_138_584 : decode code 584 = .ok (.aload_n 0, 1) := by decide +kernel
theorem jd_138_585 : decode code 585 = .ok (.iload_n 3, 1) := by decide +kernel
theorem jd_138_586 : decode code 586 = .ok (.iconst 2, 1) := by decide +kernel
theorem jd_138_587 : decode code 587 = .ok (.iadd, 1) := by decide +kernel
theorem jd_138_588 : decode code 588 = .ok (.iaload, 1) := by decide +kernel
theorem jd_138_589 : decode code 589 = .ok (.invokevirtual 87, 3) := by decide +kernel
theorem jd_138_592 : decode code 592 = .ok (.aload_n 2, 1) := by decide +kernel
theorem jd_138_593 : decode code 593 = .ok (.aload_n 0, 1) := by decide +kernel
theorem jd_138_594 : decode code 594 = .ok (.iload_n 3, 1) := by decide +kernel
theorem jd_138_595 : decode code 595 = .ok (.iconst 1, 1) := by decide +kernel
theorem jd_138_596 : decode code 596 = .ok (.iadd, 1) := by decide +kernel
theorem jd_138_597 : decode code 597 = .ok (.iaload, 1) := by decide +kernel
theorem jd_138_598 : decode code 598 = .ok (.aload_n 0, 1) := by decide +kernel
theorem jd_138_599 : decode code 599 = .ok (.iload_n 3, 1) := by decide +kernel
theorem jd_138_600 : decode code 600 = .ok (.iconst 2, 1) := by decide +kernel
theorem jd_138_601 : decode code 601 = .ok (.iadd, 1) := by decide +kernel
theorem jd_138_602 : decode code 602 = .ok (.iaload, 1) := by decide +kernel
theorem jd_138_603 : decode code 603 = .ok (.invokevirtual 91, 3) := by decide +kernel
theorem jd_138_606 : decode code 606 = .ok (.if_icmp .eq 54, 3) := by decide +kernel
theorem jd_138_609 : decode code 609 = .ok (.iconst 0, 1) := by decide +kernel
theorem jd_138_610 : decode code 610 = .ok (.ireturn, 1) := by decide +kernel
theorem jd_138_611 : decode code 611 = .ok (.aload_n 1, 1) := by decide +kernel
theorem jd_138_612 : decode code 612 = .ok (.aload_n 0, 1) := by decide +kernel
theorem jd_138_613 : decode code 613 = .ok (.iload_n 3, 1) := by decide +kernel
theorem jd_138_614 : decode code 614 = .ok (.iconst 1, 1) := by decide +kernel
theorem jd_138_615 : decode code 615 = .ok (.iadd, 1) := by decide +kernel
theorem jd_138_616 : decode code 616 = .ok (.iaload, 1) := by decide +kernel
theorem jd_138_617 : decode code 617 = .ok (.invokevirtual 92, 3) := by decide +kernel
theorem jd_138_620 : decode code 620 = .ok (.aload_n 2, 1) := by decide +kernel
theorem jd_138_621 : decode code 621 = .ok (.aload_n 0, 1) := by decide +kernel
theorem jd_138_622 : decode code 622 = .ok (.iload_n 3, 1) := by decide +kernel
theorem jd_138_623 : decode code 623 = .ok (.iconst 1, 1) := by decide +kernel
theorem jd_138_624 : decode code 624 = .ok (.iadd, 1) := by decide +kernel
theorem jd_138_625 : decode code 625 = .ok (.iaload, 1) := by decide +kernel
theorem jd_138_626 : decode code 626 = .ok (.invokevirtual 95, 3) := by decide +kernel
theorem jd_138_629 : decode code 629 = .ok (.if_icmp .eq 31, 3) := by decide +kernel
theorem jd_138_632 : decode code 632 = .ok (.iconst 0, 1) := by decide +kernel
theorem jd_138_633 : decode code 633 = .ok (.ireturn, 1) := by decide +kernel
theorem jd_138_634 : decode code 634 = .ok (.aload_n 1, 1) := by decide +kernel
theorem jd_138_635 : decode code 635 = .ok (.invokevirtual 96, 3) := by decide +kernel
theorem jd_138_638 : decode code 638 = .ok (.aload_n 2, 1) := by decide +kernel
theorem jd_138_639 : decode code 639 = .ok (.invokevirtual 99, 3) := by decide +kernel
theorem jd_138_642 : decode code 642 = .ok (.if_icmp .eq 18, 3) := by decide +kernel
theorem jd_138_645 : decode code 645 = .ok (.iconst 0, 1) := by decide +kernel
theorem jd_138_646 : decode code 646 = .ok (.ireturn, 1) := by decide +kernel
theorem jd_138_647 : decode code 647 = .ok (.aload_n 1, 1) := by decide +kernel
theorem jd_138_648 : decode code 648 = .ok (.invokevirtual 100, 3) := by decide +kernel
theorem jd_138_651 : decode code 651 = .ok (.aload_n 2, 1) := by decide +kernel
theorem jd_138_652 : decode code 652 = .ok (.invokevirtual 103, 3) := by decide +kernel
theorem jd_138_655 : decode code 655 = .ok (.if_icmp .eq 5, 3) := by decide +kernel
theorem jd_138_658 : decode code 658 = .ok (.iconst 0, 1) := by decide +kernel
theorem jd_138_659 : decode code 659 = .ok (.ireturn, 1) := by decide +kernel
theorem jd_138_660 : decode code 660 = .ok (.iinc 3 6, 3) := by decide +kernel
theorem jd_138_663 : decode code 663 = .ok (.goto (-635), 3) := by decide +kernel
theorem jd_138_666 : decode code 666 = .ok (.iconst 1, 1) := by decide +kernel
theorem jd_138_667 : decode code 667 = .ok (.ireturn, 1) := by decide +kernel
def jt_138 (pc : Nat) : jx_Sp := bif Nat.ble pc 370 then (bif Nat.ble pc 235 then (bif Nat.ble pc 164 then (bif Nat.ble pc 131 then (bif Nat.ble pc 29 then (bif Nat.ble pc 17 then (bif Nat.ble pc 6 then (bif Nat.ble pc 4 then (bif Nat.ble pc 3 then (bif Nat.beq pc 3 then js_dup else js_none) else (bif Nat.beq pc 4 then js_al 0 1 else js_none)) else (bif Nat.ble pc 5 then (bif Nat.beq pc 5 then js_c 0 1 else js_none) else (bif Nat.beq pc 6 then js_s2 137 else js_none))) else (bif Nat.ble pc 16 then (bif Nat.ble pc 12 then (bif Nat.beq pc 12 then js_as 1 1 else js_none) else (bif Nat.beq pc 16 then js_dup else js_none)) else (bif Nat.beq pc 17 then js_al 0 1 else js_none))) else (bif Nat.ble pc 26 then (bif Nat.ble pc 19 then (bif Nat.ble pc 18 then (bif Nat.beq pc 18 then js_c 0 1 else js_none) else (bif Nat.beq pc 19 then js_s2 137 else js_none)) else (bif Nat.ble pc 25 then (bif Nat.beq pc 25 then js_as 2 1 else js_none) else (bif Nat.beq pc 26 then js_c 1 1 else js_none))) else (bif Nat.ble pc 28 then (bif Nat.ble pc 27 then (bif Nat.beq pc 27 then js_is 3 1 else js_none) else (bif Nat.beq pc 28 then js_il 3 1 else js_none)) else (bif Nat.beq pc 29 then js_al 0 1 else js_none)))) else (bif Nat.ble pc 39 then (bif Nat.ble pc 34 then (bif Nat.ble pc 31 then (bif Nat.ble pc 30 then (bif Nat.beq pc 30 then js_len else js_none) else (bif Nat.beq pc 31 then js_c 6 2 else js_none)) else (bif Nat.ble pc 33 then (bif Nat.beq pc 33 then js_isub else js_none) else (bif Nat.beq pc 34 then js_cgt 666 else js_none))) else (bif Nat.ble pc 38 then (bif Nat.ble pc 37 then (bif Nat.beq pc 37 then js_al 0 1 else js_none) else (bif Nat.beq pc 38 then js_il 3 1 else js_none)) else (bif Nat.beq pc 39 then js_ald else js_none))) else (bif Nat.ble pc 128 then (bif Nat.ble pc 42 then (bif Nat.ble pc 40 then (bif Nat.beq pc 40 then js_c 31 2 else js_none) else (bif Nat.beq pc 42 then js_iand else js_none)) else (bif Nat.ble pc 43 then (bif Nat.beq pc 43 then js_sw [(0, 128), (1, 191), (2, 204), (3, 257), (4, 280), (5, 291), (6, 324), (7, 387), (8, 430), (9, 493), (10, 516), (11, 529), (12, 542), (13, 565), (14, 578), (15, 611), (16, 634), (17, 647)] 660 else js_none) else (bif Nat.beq pc 128 then js_al 1 1 else js_none))) else (bif Nat.ble pc 130 then (bif Nat.ble pc 129 then (bif Nat.beq pc 129 then js_al 0 1 else js_none) else (bif Nat.beq pc 130 then js_il 3 1 else js_none)) else (bif Nat.beq pc 131 then js_c 1 1 else js_none))))) else (bif Nat.ble pc 148 then (bif Nat.ble pc 139 then (bif Nat.ble pc 135 then (bif Nat.ble pc 133 then (bif Nat.ble pc 132 then (bif Nat.beq pc 132 then js_iadd else js_none) else (bif Nat.beq pc 133 then js_ald else js_none)) else (bif Nat.ble pc 134 then (bif Nat.beq pc 134 then js_i2l else js_none) else (bif Nat.beq pc 135 then js_c 32 2 else js_none))) else (bif Nat.ble pc 138 then (bif Nat.ble pc 137 then (bif Nat.beq pc 137 then js_lshl else js_none) else (bif Nat.beq pc 138 then js_al 0 1 else js_none)) else (bif Nat.beq pc 139 then js_il 3 1 else js_none))) else (bif Nat.ble pc 143 then (bif Nat.ble pc 141 then (bif Nat.ble pc 140 then (bif Nat.beq pc 140 then js_c 2 1 else js_none) else (bif Nat.beq pc 141 then js_iadd else js_none)) else (bif Nat.ble pc 142 then (bif Nat.beq pc 142 then js_ald else js_none) else (bif Nat.beq pc 143 then js_i2l else js_none))) else (bif Nat.ble pc 147 then (bif Nat.ble pc 144 then (bif Nat.beq pc 144 then js_cl 4294967295 3 else js_none) else (bif Nat.beq pc 147 then js_land else js_none)) else (bif Nat.beq pc 148 then js_lor else js_none)))) else (bif Nat.ble pc 157 then (bif Nat.ble pc 152 then (bif Nat.ble pc 150 then (bif Nat.ble pc 149 then (bif Nat.beq pc 149 then js_al 0 1 else js_none) else (bif Nat.beq pc 150 then js_il 3 1 else js_none)) else (bif Nat.ble pc 151 then (bif Nat.beq pc 151 then js_c 3 1 else js_none) else (bif Nat.beq pc 152 then js_iadd else js_none))) else (bif Nat.ble pc 154 then (bif Nat.ble pc 153 then (bif Nat.beq pc 153 then js_ald else js_none) else (bif Nat.beq pc 154 then js_v2 0 1 else js_none)) else (bif Nat.beq pc 157 then js_al 2 1 else js_none))) else (bif Nat.ble pc 161 then (bif Nat.ble pc 159 then (bif Nat.ble pc 158 then (bif Nat.beq pc 158 then js_al 0 1 else js_none) else (bif Nat.beq pc 159 then js_il 3 1 else js_none)) else (bif Nat.ble pc 160 then (bif Nat.beq pc 160 then js_c 1 1 else js_none) else (bif Nat.beq pc 161 then js_iadd else js_none))) else (bif Nat.ble pc 163 then (bif Nat.ble pc 162 then (bif Nat.beq pc 162 then js_ald else js_none) else (bif Nat.beq pc 163 then js_i2l else js_none)) else (bif Nat.beq pc 164 then js_c 32 2 else js_none)))))) else (bif Nat.ble pc 205 then (bif Nat.ble pc 181 then (bif Nat.ble pc 172 then (bif Nat.ble pc 169 then (bif Nat.ble pc 167 then (bif Nat.ble pc 166 then (bif Nat.beq pc 166 then js_lshl else js_none) else (bif Nat.beq pc 167 then js_al 0 1 else js_none)) else (bif Nat.ble pc 168 then (bif Nat.beq pc 168 then js_il 3 1 else js_none) else (bif Nat.beq pc 169 then js_c 2 1 else js_none))) else (bif Nat.ble pc 171 then (bif Nat.ble pc 170 then (bif Nat.beq pc 170 then js_iadd else js_none) else (bif Nat.beq pc 171 then js_ald else js_none)) else (bif Nat.beq pc 172 then js_i2l else js_none))) else (bif Nat.ble pc 178 then (bif Nat.ble pc 176 then (bif Nat.ble pc 173 then (bif Nat.beq pc 173 then js_cl 4294967295 3 else js_none) else (bif Nat.beq pc 176 then js_land else js_none)) else (bif Nat.ble pc 177 then (bif Nat.beq pc 177 then js_lor else js_none) else (bif Nat.beq pc 178 then js_al 0 1 else js_none))) else (bif Nat.ble pc 180 then (bif Nat.ble pc 179 then (bif Nat.beq pc 179 then js_il 3 1 else js_none) else (bif Nat.beq pc 180 then js_c 3 1 else js_none)) else (bif Nat.beq pc 181 then js_iadd else js_none)))) else (bif Nat.ble pc 192 then (bif Nat.ble pc 189 then (bif Nat.ble pc 183 then (bif Nat.ble pc 182 then (bif Nat.beq pc 182 then js_ald else js_none) else (bif Nat.beq pc 183 then js_v2 8 90 else js_none)) else (bif Nat.ble pc 186 then (bif Nat.beq pc 186 then js_ceq 660 else js_none) else (bif Nat.beq pc 189 then js_c 0 1 else js_none))) else (bif Nat.ble pc 191 then (bif Nat.ble pc 190 then (bif Nat.beq pc 190 then js_zr else js_none) else (bif Nat.beq pc 191 then js_al 1 1 else js_none)) else (bif Nat.beq pc 192 then js_v0 0 2 else js_none))) else (bif Nat.ble pc 202 then (bif Nat.ble pc 196 then (bif Nat.ble pc 195 then (bif Nat.beq pc 195 then js_al 2 1 else js_none) else (bif Nat.beq pc 196 then js_v0 8 92 else js_none)) else (bif Nat.ble pc 199 then (bif Nat.beq pc 199 then js_ceq 660 else js_none) else (bif Nat.beq pc 202 then js_c 0 1 else js_none))) else (bif Nat.ble pc 204 then (bif Nat.ble pc 203 then (bif Nat.beq pc 203 then js_zr else js_none) else (bif Nat.beq pc 204 then js_al 1 1 else js_none)) else (bif Nat.beq pc 205 then js_al 0 1 else js_none))))) else (bif Nat.ble pc 219 then (bif Nat.ble pc 212 then (bif Nat.ble pc 209 then (bif Nat.ble pc 207 then (bif Nat.ble pc 206 then (bif Nat.beq pc 206 then js_il 3 1 else js_none) else (bif Nat.beq pc 207 then js_c 1 1 else js_none)) else (bif Nat.ble pc 208 then (bif Nat.beq pc 208 then js_iadd else js_none) else (bif Nat.beq pc 209 then js_ald else js_none))) else (bif Nat.ble pc 211 then (bif Nat.ble pc 210 then (bif Nat.beq pc 210 then js_al 0 1 else js_none) else (bif Nat.beq pc 211 then js_il 3 1 else js_none)) else (bif Nat.beq pc 212 then js_c 2 1 else js_none))) else (bif Nat.ble pc 216 then (bif Nat.ble pc 214 then (bif Nat.ble pc 213 then (bif Nat.beq pc 213 then js_iadd else js_none) else (bif Nat.beq pc 214 then js_ald else js_none)) else (bif Nat.ble pc 215 then (bif Nat.beq pc 215 then js_al 0 1 else js_none) else (bif Nat.beq pc 216 then js_il 3 1 else js_none))) else (bif Nat.ble pc 218 then (bif Nat.ble pc 217 then (bif Nat.beq pc 217 then js_c 3 1 else js_none) else (bif Nat.beq pc 218 then js_iadd else js_none)) else (bif Nat.beq pc 219 then js_ald else js_none)))) else (bif Nat.ble pc 228 then (bif Nat.ble pc 223 then (bif Nat.ble pc 221 then (bif Nat.ble pc 220 then (bif Nat.beq pc 220 then js_al 0 1 else js_none) else (bif Nat.beq pc 221 then js_il 3 1 else js_none)) else (bif Nat.ble pc 222 then (bif Nat.beq pc 222 then js_c 4 1 else js_none) else (bif Nat.beq pc 223 then js_iadd else js_none))) else (bif Nat.ble pc 225 then (bif Nat.ble pc 224 then (bif Nat.beq pc 224 then js_ald else js_none) else (bif Nat.beq pc 225 then js_v4 0 3 else js_none)) else (bif Nat.beq pc 228 then js_al 2 1 else js_none))) else (bif Nat.ble pc 232 then (bif Nat.ble pc 230 then (bif Nat.ble pc 229 then (bif Nat.beq pc 229 then js_al 0 1 else js_none) else (bif Nat.beq pc 230 then js_il 3 1 else js_none)) else (bif Nat.ble pc 231 then (bif Nat.beq pc 231 then js_c 1 1 else js_none) else (bif Nat.beq pc 232 then js_iadd else js_none))) else (bif Nat.ble pc 234 then (bif Nat.ble pc 233 then (bif Nat.beq pc 233 then js_ald else js_none) else (bif Nat.beq pc 234 then js_al 0 1 else js_none)) else (bif Nat.beq pc 235 then js_il 3 1 else js_none))))))) else (bif Nat.ble pc 309 then (bif Nat.ble pc 269 then (bif Nat.ble pc 249 then (bif Nat.ble pc 242 then (bif Nat.ble pc 239 then (bif Nat.ble pc 237 then (bif Nat.ble pc 236 then (bif Nat.beq pc 236 then js_c 2 1 else js_none) else (bif Nat.beq pc 237 then js_iadd else js_none)) else (bif Nat.ble pc 238 then (bif Nat.beq pc 238 then js_ald else js_none) else (bif Nat.beq pc 239 then js_al 0 1 else js_none))) else (bif Nat.ble pc 241 then (bif Nat.ble pc 240 then (bif Nat.beq pc 240 then js_il 3 1 else js_none) else (bif Nat.beq pc 241 then js_c 3 1 else js_none)) else (bif Nat.beq pc 242 then js_iadd else js_none))) else (bif Nat.ble pc 246 then (bif Nat.ble pc 244 then (bif Nat.ble pc 243 then (bif Nat.beq pc 243 then js_ald else js_none) else (bif Nat.beq pc 244 then js_al 0 1 else js_none)) else (bif Nat.ble pc 245 then (bif Nat.beq pc 245 then js_il 3 1 else js_none) else (bif Nat.beq pc 246 then js_c 4 1 else js_none))) else (bif Nat.ble pc 248 then (bif Nat.ble pc 247 then (bif Nat.beq pc 247 then js_iadd else js_none) else (bif Nat.beq pc 248 then js_ald else js_none)) else (bif Nat.beq pc 249 then js_v4 8 108 else js_none)))) else (bif Nat.ble pc 260 then (bif Nat.ble pc 257 then (bif Nat.ble pc 255 then (bif Nat.ble pc 252 then (bif Nat.beq pc 252 then js_ceq 660 else js_none) else (bif Nat.beq pc 255 then js_c 0 1 else js_none)) else (bif Nat.ble pc 256 then (bif Nat.beq pc 256 then js_zr else js_none) else (bif Nat.beq pc 257 then js_al 1 1 else js_none))) else (bif Nat.ble pc 259 then (bif Nat.ble pc 258 then (bif Nat.beq pc 258 then js_al 0 1 else js_none) else (bif Nat.beq pc 259 then js_il 3 1 else js_none)) else (bif Nat.beq pc 260 then js_c 1 1 else js_none))) else (bif Nat.ble pc 266 then (bif Nat.ble pc 262 then (bif Nat.ble pc 261 then (bif Nat.beq pc 261 then js_iadd else js_none) else (bif Nat.beq pc 262 then js_ald else js_none)) else (bif Nat.ble pc 263 then (bif Nat.beq pc 263 then js_v1 0 4 else js_none) else (bif Nat.beq pc 266 then js_al 2 1 else js_none))) else (bif Nat.ble pc 268 then (bif Nat.ble pc 267 then (bif Nat.beq pc 267 then js_al 0 1 else js_none) else (bif Nat.beq pc 268 then js_il 3 1 else js_none)) else (bif Nat.beq pc 269 then js_c 1 1 else js_none))))) else (bif Nat.ble pc 293 then (bif Nat.ble pc 280 then (bif Nat.ble pc 275 then (bif Nat.ble pc 271 then (bif Nat.ble pc 270 then (bif Nat.beq pc 270 then js_iadd else js_none) else (bif Nat.beq pc 271 then js_ald else js_none)) else (bif Nat.ble pc 272 then (bif Nat.beq pc 272 then js_v1 8 109 else js_none) else (bif Nat.beq pc 275 then js_ceq 660 else js_none))) else (bif Nat.ble pc 279 then (bif Nat.ble pc 278 then (bif Nat.beq pc 278 then js_c 0 1 else js_none) else (bif Nat.beq pc 279 then js_zr else js_none)) else (bif Nat.beq pc 280 then js_al 1 1 else js_none))) else (bif Nat.ble pc 288 then (bif Nat.ble pc 284 then (bif Nat.ble pc 281 then (bif Nat.beq pc 281 then js_v0 0 5 else js_none) else (bif Nat.beq pc 284 then js_al 2 1 else js_none)) else (bif Nat.ble pc 285 then (bif Nat.beq pc 285 then js_v0 8 110 else js_none) else (bif Nat.beq pc 288 then js_go 660 else js_none))) else (bif Nat.ble pc 292 then (bif Nat.ble pc 291 then (bif Nat.beq pc 291 then js_al 1 1 else js_none) else (bif Nat.beq pc 292 then js_al 0 1 else js_none)) else (bif Nat.beq pc 293 then js_il 3 1 else js_none)))) else (bif Nat.ble pc 300 then (bif Nat.ble pc 297 then (bif Nat.ble pc 295 then (bif Nat.ble pc 294 then (bif Nat.beq pc 294 then js_c 1 1 else js_none) else (bif Nat.beq pc 295 then js_iadd else js_none)) else (bif Nat.ble pc 296 then (bif Nat.beq pc 296 then js_ald else js_none) else (bif Nat.beq pc 297 then js_al 0 1 else js_none))) else (bif Nat.ble pc 299 then (bif Nat.ble pc 298 then (bif Nat.beq pc 298 then js_il 3 1 else js_none) else (bif Nat.beq pc 299 then js_c 2 1 else js_none)) else (bif Nat.beq pc 300 then js_iadd else js_none))) else (bif Nat.ble pc 306 then (bif Nat.ble pc 302 then (bif Nat.ble pc 301 then (bif Nat.beq pc 301 then js_ald else js_none) else (bif Nat.beq pc 302 then js_v2 0 6 else js_none)) else (bif Nat.ble pc 305 then (bif Nat.beq pc 305 then js_al 2 1 else js_none) else (bif Nat.beq pc 306 then js_al 0 1 else js_none))) else (bif Nat.ble pc 308 then (bif Nat.ble pc 307 then (bif Nat.beq pc 307 then js_il 3 1 else js_none) else (bif Nat.beq pc 308 then js_c 1 1 else js_none)) else (bif Nat.beq pc 309 then js_iadd else js_none)))))) else (bif Nat.ble pc 341 then (bif Nat.ble pc 327 then (bif Nat.ble pc 316 then (bif Nat.ble pc 313 then (bif Nat.ble pc 311 then (bif Nat.ble pc 310 then (bif Nat.beq pc 310 then js_ald else js_none) else (bif Nat.beq pc 311 then js_al 0 1 else js_none)) else (bif Nat.ble pc 312 then (bif Nat.beq pc 312 then js_il 3 1 else js_none) else (bif Nat.beq pc 313 then js_c 2 1 else js_none))) else (bif Nat.ble pc 315 then (bif Nat.ble pc 314 then (bif Nat.beq pc 314 then js_iadd else js_none) else (bif Nat.beq pc 315 then js_ald else js_none)) else (bif Nat.beq pc 316 then js_v2 8 112 else js_none))) else (bif Nat.ble pc 324 then (bif Nat.ble pc 322 then (bif Nat.ble pc 319 then (bif Nat.beq pc 319 then js_ceq 660 else js_none) else (bif Nat.beq pc 322 then js_c 0 1 else js_none)) else (bif Nat.ble pc 323 then (bif Nat.beq pc 323 then js_zr else js_none) else (bif Nat.beq pc 324 then js_al 1 1 else js_none))) else (bif Nat.ble pc 326 then (bif Nat.ble pc 325 then (bif Nat.beq pc 325 then js_al 0 1 else js_none) else (bif Nat.beq pc 326 then js_il 3 1 else js_none)) else (bif Nat.beq pc 327 then js_c 1 1 else js_none)))) else (bif Nat.ble pc 334 then (bif Nat.ble pc 331 then (bif Nat.ble pc 329 then (bif Nat.ble pc 328 then (bif Nat.beq pc 328 then js_iadd else js_none) else (bif Nat.beq pc 329 then js_ald else js_none)) else (bif Nat.ble pc 330 then (bif Nat.beq pc 330 then js_al 0 1 else js_none) else (bif Nat.beq pc 331 then js_il 3 1 else js_none))) else (bif Nat.ble pc 333 then (bif Nat.ble pc 332 then (bif Nat.beq pc 332 then js_c 2 1 else js_none) else (bif Nat.beq pc 333 then js_iadd else js_none)) else (bif Nat.beq pc 334 then js_ald else js_none))) else (bif Nat.ble pc 338 then (bif Nat.ble pc 336 then (bif Nat.ble pc 335 then (bif Nat.beq pc 335 then js_al 0 1 else js_none) else (bif Nat.beq pc 336 then js_il 3 1 else js_none)) else (bif Nat.ble pc 337 then (bif Nat.beq pc 337 then js_c 3 1 else js_none) else (bif Nat.beq pc 338 then js_iadd else js_none))) else (bif Nat.ble pc 340 then (bif Nat.ble pc 339 then (bif Nat.beq pc 339 then js_ald else js_none) else (bif Nat.beq pc 340 then js_al 0 1 else js_none)) else (bif Nat.beq pc 341 then js_il 3 1 else js_none))))) else (bif Nat.ble pc 357 then (bif Nat.ble pc 348 then (bif Nat.ble pc 345 then (bif Nat.ble pc 343 then (bif Nat.ble pc 342 then (bif Nat.beq pc 342 then js_c 4 1 else js_none) else (bif Nat.beq pc 343 then js_iadd else js_none)) else (bif Nat.ble pc 344 then (bif Nat.beq pc 344 then js_ald else js_none) else (bif Nat.beq pc 345 then js_al 0 1 else js_none))) else (bif Nat.ble pc 347 then (bif Nat.ble pc 346 then (bif Nat.beq pc 346 then js_il 3 1 else js_none) else (bif Nat.beq pc 347 then js_c 5 1 else js_none)) else (bif Nat.beq pc 348 then js_iadd else js_none))) else (bif Nat.ble pc 354 then (bif Nat.ble pc 350 then (bif Nat.ble pc 349 then (bif Nat.beq pc 349 then js_ald else js_none) else (bif Nat.beq pc 350 then js_v5 0 7 else js_none)) else (bif Nat.ble pc 353 then (bif Nat.beq pc 353 then js_al 2 1 else js_none) else (bif Nat.beq pc 354 then js_al 0 1 else js_none))) else (bif Nat.ble pc 356 then (bif Nat.ble pc 355 then (bif Nat.beq pc 355 then js_il 3 1 else js_none) else (bif Nat.beq pc 356 then js_c 1 1 else js_none)) else (bif Nat.beq pc 357 then js_iadd else js_none)))) else (bif Nat.ble pc 364 then (bif Nat.ble pc 361 then (bif Nat.ble pc 359 then (bif Nat.ble pc 358 then (bif Nat.beq pc 358 then js_ald else js_none) else (bif Nat.beq pc 359 then js_al 0 1 else js_none)) else (bif Nat.ble pc 360 then (bif Nat.beq pc 360 then js_il 3 1 else js_none) else (bif Nat.beq pc 361 then js_c 2 1 else js_none))) else (bif Nat.ble pc 363 then (bif Nat.ble pc 362 then (bif Nat.beq pc 362 then js_iadd else js_none) else (bif Nat.beq pc 363 then js_ald else js_none)) else (bif Nat.beq pc 364 then js_al 0 1 else js_none))) else (bif Nat.ble pc 367 then (bif Nat.ble pc 366 then (bif Nat.ble pc 365 then (bif Nat.beq pc 365 then js_il 3 1 else js_none) else (bif Nat.beq pc 366 then js_c 3 1 else js_none)) else (bif Nat.beq pc 367 then js_iadd else js_none)) else (bif Nat.ble pc 369 then (bif Nat.ble pc 368 then (bif Nat.beq pc 368 then js_ald else js_none) else (bif Nat.beq pc 369 then js_al 0 1 else js_none)) else (bif Nat.beq pc 370 then js_il 3 1 else js_none)))))))) else (bif Nat.ble pc 498 then (bif Nat.ble pc 436 then (bif Nat.ble pc 402 then (bif Nat.ble pc 388 then (bif Nat.ble pc 377 then (bif Nat.ble pc 374 then (bif Nat.ble pc 372 then (bif Nat.ble pc 371 then (bif Nat.beq pc 371 then js_c 4 1 else js_none) else (bif Nat.beq pc 372 then js_iadd else js_none)) else (bif Nat.ble pc 373 then (bif Nat.beq pc 373 then js_ald else js_none) else (bif Nat.beq pc 374 then js_al 0 1 else js_none))) else (bif Nat.ble pc 376 then (bif Nat.ble pc 375 then (bif Nat.beq pc 375 then js_il 3 1 else js_none) else (bif Nat.beq pc 376 then js_c 5 1 else js_none)) else (bif Nat.beq pc 377 then js_iadd else js_none))) else (bif Nat.ble pc 385 then (bif Nat.ble pc 379 then (bif Nat.ble pc 378 then (bif Nat.beq pc 378 then js_ald else js_none) else (bif Nat.beq pc 379 then js_v5 8 113 else js_none)) else (bif Nat.ble pc 382 then (bif Nat.beq pc 382 then js_ceq 660 else js_none) else (bif Nat.beq pc 385 then js_c 0 1 else js_none))) else (bif Nat.ble pc 387 then (bif Nat.ble pc 386 then (bif Nat.beq pc 386 then js_zr else js_none) else (bif Nat.beq pc 387 then js_al 1 1 else js_none)) else (bif Nat.beq pc 388 then js_al 0 1 else js_none)))) else (bif Nat.ble pc 395 then (bif Nat.ble pc 392 then (bif Nat.ble pc 390 then (bif Nat.ble pc 389 then (bif Nat.beq pc 389 then js_il 3 1 else js_none) else (bif Nat.beq pc 390 then js_c 1 1 else js_none)) else (bif Nat.ble pc 391 then (bif Nat.beq pc 391 then js_iadd else js_none) else (bif Nat.beq pc 392 then js_ald else js_none))) else (bif Nat.ble pc 394 then (bif Nat.ble pc 393 then (bif Nat.beq pc 393 then js_al 0 1 else js_none) else (bif Nat.beq pc 394 then js_il 3 1 else js_none)) else (bif Nat.beq pc 395 then js_c 2 1 else js_none))) else (bif Nat.ble pc 399 then (bif Nat.ble pc 397 then (bif Nat.ble pc 396 then (bif Nat.beq pc 396 then js_iadd else js_none) else (bif Nat.beq pc 397 then js_ald else js_none)) else (bif Nat.ble pc 398 then (bif Nat.beq pc 398 then js_al 0 1 else js_none) else (bif Nat.beq pc 399 then js_il 3 1 else js_none))) else (bif Nat.ble pc 401 then (bif Nat.ble pc 400 then (bif Nat.beq pc 400 then js_c 3 1 else js_none) else (bif Nat.beq pc 401 then js_iadd else js_none)) else (bif Nat.beq pc 402 then js_ald else js_none))))) else (bif Nat.ble pc 418 then (bif Nat.ble pc 411 then (bif Nat.ble pc 408 then (bif Nat.ble pc 406 then (bif Nat.ble pc 403 then (bif Nat.beq pc 403 then js_v3 0 8 else js_none) else (bif Nat.beq pc 406 then js_al 2 1 else js_none)) else (bif Nat.ble pc 407 then (bif Nat.beq pc 407 then js_al 0 1 else js_none) else (bif Nat.beq pc 408 then js_il 3 1 else js_none))) else (bif Nat.ble pc 410 then (bif Nat.ble pc 409 then (bif Nat.beq pc 409 then js_c 1 1 else js_none) else (bif Nat.beq pc 410 then js_iadd else js_none)) else (bif Nat.beq pc 411 then js_ald else js_none))) else (bif Nat.ble pc 415 then (bif Nat.ble pc 413 then (bif Nat.ble pc 412 then (bif Nat.beq pc 412 then js_al 0 1 else js_none) else (bif Nat.beq pc 413 then js_il 3 1 else js_none)) else (bif Nat.ble pc 414 then (bif Nat.beq pc 414 then js_c 2 1 else js_none) else (bif Nat.beq pc 415 then js_iadd else js_none))) else (bif Nat.ble pc 417 then (bif Nat.ble pc 416 then (bif Nat.beq pc 416 then js_ald else js_none) else (bif Nat.beq pc 417 then js_al 0 1 else js_none)) else (bif Nat.beq pc 418 then js_il 3 1 else js_none)))) else (bif Nat.ble pc 429 then (bif Nat.ble pc 422 then (bif Nat.ble pc 420 then (bif Nat.ble pc 419 then (bif Nat.beq pc 419 then js_c 3 1 else js_none) else (bif Nat.beq pc 420 then js_iadd else js_none)) else (bif Nat.ble pc 421 then (bif Nat.beq pc 421 then js_ald else js_none) else (bif Nat.beq pc 422 then js_v3 8 114 else js_none))) else (bif Nat.ble pc 428 then (bif Nat.ble pc 425 then (bif Nat.beq pc 425 then js_ceq 660 else js_none) else (bif Nat.beq pc 428 then js_c 0 1 else js_none)) else (bif Nat.beq pc 429 then js_zr else js_none))) else (bif Nat.ble pc 433 then (bif Nat.ble pc 431 then (bif Nat.ble pc 430 then (bif Nat.beq pc 430 then js_al 1 1 else js_none) else (bif Nat.beq pc 431 then js_al 0 1 else js_none)) else (bif Nat.ble pc 432 then (bif Nat.beq pc 432 then js_il 3 1 else js_none) else (bif Nat.beq pc 433 then js_c 1 1 else js_none))) else (bif Nat.ble pc 435 then (bif Nat.ble pc 434 then (bif Nat.beq pc 434 then js_iadd else js_none) else (bif Nat.beq pc 435 then js_ald else js_none)) else (bif Nat.beq pc 436 then js_al 0 1 else js_none)))))) else (bif Nat.ble pc 466 then (bif Nat.ble pc 450 then (bif Nat.ble pc 443 then (bif Nat.ble pc 440 then (bif Nat.ble pc 438 then (bif Nat.ble pc 437 then (bif Nat.beq pc 437 then js_il 3 1 else js_none) else (bif Nat.beq pc 438 then js_c 2 1 else js_none)) else (bif Nat.ble pc 439 then (bif Nat.beq pc 439 then js_iadd else js_none) else (bif Nat.beq pc 440 then js_ald else js_none))) else (bif Nat.ble pc 442 then (bif Nat.ble pc 441 then (bif Nat.beq pc 441 then js_al 0 1 else js_none) else (bif Nat.beq pc 442 then js_il 3 1 else js_none)) else (bif Nat.beq pc 443 then js_c 3 1 else js_none))) else (bif Nat.ble pc 447 then (bif Nat.ble pc 445 then (bif Nat.ble pc 444 then (bif Nat.beq pc 444 then js_iadd else js_none) else (bif Nat.beq pc 445 then js_ald else js_none)) else (bif Nat.ble pc 446 then (bif Nat.beq pc 446 then js_al 0 1 else js_none) else (bif Nat.beq pc 447 then js_il 3 1 else js_none))) else (bif Nat.ble pc 449 then (bif Nat.ble pc 448 then (bif Nat.beq pc 448 then js_c 4 1 else js_none) else (bif Nat.beq pc 449 then js_iadd else js_none)) else (bif Nat.beq pc 450 then js_ald else js_none)))) else (bif Nat.ble pc 459 then (bif Nat.ble pc 454 then (bif Nat.ble pc 452 then (bif Nat.ble pc 451 then (bif Nat.beq pc 451 then js_al 0 1 else js_none) else (bif Nat.beq pc 452 then js_il 3 1 else js_none)) else (bif Nat.ble pc 453 then (bif Nat.beq pc 453 then js_c 5 1 else js_none) else (bif Nat.beq pc 454 then js_iadd else js_none))) else (bif Nat.ble pc 456 then (bif Nat.ble pc 455 then (bif Nat.beq pc 455 then js_ald else js_none) else (bif Nat.beq pc 456 then js_v5 0 9 else js_none)) else (bif Nat.beq pc 459 then js_al 2 1 else js_none))) else (bif Nat.ble pc 463 then (bif Nat.ble pc 461 then (bif Nat.ble pc 460 then (bif Nat.beq pc 460 then js_al 0 1 else js_none) else (bif Nat.beq pc 461 then js_il 3 1 else js_none)) else (bif Nat.ble pc 462 then (bif Nat.beq pc 462 then js_c 1 1 else js_none) else (bif Nat.beq pc 463 then js_iadd else js_none))) else (bif Nat.ble pc 465 then (bif Nat.ble pc 464 then (bif Nat.beq pc 464 then js_ald else js_none) else (bif Nat.beq pc 465 then js_al 0 1 else js_none)) else (bif Nat.beq pc 466 then js_il 3 1 else js_none))))) else (bif Nat.ble pc 480 then (bif Nat.ble pc 473 then (bif Nat.ble pc 470 then (bif Nat.ble pc 468 then (bif Nat.ble pc 467 then (bif Nat.beq pc 467 then js_c 2 1 else js_none) else (bif Nat.beq pc 468 then js_iadd else js_none)) else (bif Nat.ble pc 469 then (bif Nat.beq pc 469 then js_ald else js_none) else (bif Nat.beq pc 470 then js_al 0 1 else js_none))) else (bif Nat.ble pc 472 then (bif Nat.ble pc 471 then (bif Nat.beq pc 471 then js_il 3 1 else js_none) else (bif Nat.beq pc 472 then js_c 3 1 else js_none)) else (bif Nat.beq pc 473 then js_iadd else js_none))) else (bif Nat.ble pc 477 then (bif Nat.ble pc 475 then (bif Nat.ble pc 474 then (bif Nat.beq pc 474 then js_ald else js_none) else (bif Nat.beq pc 475 then js_al 0 1 else js_none)) else (bif Nat.ble pc 476 then (bif Nat.beq pc 476 then js_il 3 1 else js_none) else (bif Nat.beq pc 477 then js_c 4 1 else js_none))) else (bif Nat.ble pc 479 then (bif Nat.ble pc 478 then (bif Nat.beq pc 478 then js_iadd else js_none) else (bif Nat.beq pc 479 then js_ald else js_none)) else (bif Nat.beq pc 480 then js_al 0 1 else js_none)))) else (bif Nat.ble pc 491 then (bif Nat.ble pc 484 then (bif Nat.ble pc 482 then (bif Nat.ble pc 481 then (bif Nat.beq pc 481 then js_il 3 1 else js_none) else (bif Nat.beq pc 482 then js_c 5 1 else js_none)) else (bif Nat.ble pc 483 then (bif Nat.beq pc 483 then js_iadd else js_none) else (bif Nat.beq pc 484 then js_ald else js_none))) else (bif Nat.ble pc 488 then (bif Nat.ble pc 485 then (bif Nat.beq pc 485 then js_v5 8 115 else js_none) else (bif Nat.beq pc 488 then js_ceq 660 else js_none)) else (bif Nat.beq pc 491 then js_c 0 1 else js_none))) else (bif Nat.ble pc 495 then (bif Nat.ble pc 493 then (bif Nat.ble pc 492 then (bif Nat.beq pc 492 then js_zr else js_none) else (bif Nat.beq pc 493 then js_al 1 1 else js_none)) else (bif Nat.ble pc 494 then (bif Nat.beq pc 494 then js_al 0 1 else js_none) else (bif Nat.beq pc 495 then js_il 3 1 else js_none))) else (bif Nat.ble pc 497 then (bif Nat.ble pc 496 then (bif Nat.beq pc 496 then js_c 1 1 else js_none) else (bif Nat.beq pc 497 then js_iadd else js_none)) else (bif Nat.beq pc 498 then js_ald else js_none))))))) else (bif Nat.ble pc 584 then (bif Nat.ble pc 544 then (bif Nat.ble pc 520 then (bif Nat.ble pc 507 then (bif Nat.ble pc 504 then (bif Nat.ble pc 502 then (bif Nat.ble pc 499 then (bif Nat.beq pc 499 then js_v1 0 10 else js_none) else (bif Nat.beq pc 502 then js_al 2 1 else js_none)) else (bif Nat.ble pc 503 then (bif Nat.beq pc 503 then js_al 0 1 else js_none) else (bif Nat.beq pc 504 then js_il 3 1 else js_none))) else (bif Nat.ble pc 506 then (bif Nat.ble pc 505 then (bif Nat.beq pc 505 then js_c 1 1 else js_none) else (bif Nat.beq pc 506 then js_iadd else js_none)) else (bif Nat.beq pc 507 then js_ald else js_none))) else (bif Nat.ble pc 515 then (bif Nat.ble pc 511 then (bif Nat.ble pc 508 then (bif Nat.beq pc 508 then js_v1 8 116 else js_none) else (bif Nat.beq pc 511 then js_ceq 660 else js_none)) else (bif Nat.ble pc 514 then (bif Nat.beq pc 514 then js_c 0 1 else js_none) else (bif Nat.beq pc 515 then js_zr else js_none))) else (bif Nat.ble pc 517 then (bif Nat.ble pc 516 then (bif Nat.beq pc 516 then js_al 1 1 else js_none) else (bif Nat.beq pc 517 then js_v0 0 11 else js_none)) else (bif Nat.beq pc 520 then js_al 2 1 else js_none)))) else (bif Nat.ble pc 533 then (bif Nat.ble pc 528 then (bif Nat.ble pc 524 then (bif Nat.ble pc 521 then (bif Nat.beq pc 521 then js_v0 8 129 else js_none) else (bif Nat.beq pc 524 then js_ceq 660 else js_none)) else (bif Nat.ble pc 527 then (bif Nat.beq pc 527 then js_c 0 1 else js_none) else (bif Nat.beq pc 528 then js_zr else js_none))) else (bif Nat.ble pc 530 then (bif Nat.ble pc 529 then (bif Nat.beq pc 529 then js_al 1 1 else js_none) else (bif Nat.beq pc 530 then js_v0 0 12 else js_none)) else (bif Nat.beq pc 533 then js_al 2 1 else js_none))) else (bif Nat.ble pc 541 then (bif Nat.ble pc 537 then (bif Nat.ble pc 534 then (bif Nat.beq pc 534 then js_v0 8 130 else js_none) else (bif Nat.beq pc 537 then js_ceq 660 else js_none)) else (bif Nat.ble pc 540 then (bif Nat.beq pc 540 then js_c 0 1 else js_none) else (bif Nat.beq pc 541 then js_zr else js_none))) else (bif Nat.ble pc 543 then (bif Nat.ble pc 542 then (bif Nat.beq pc 542 then js_al 1 1 else js_none) else (bif Nat.beq pc 543 then js_al 0 1 else js_none)) else (bif Nat.beq pc 544 then js_il 3 1 else js_none))))) else (bif Nat.ble pc 564 then (bif Nat.ble pc 553 then (bif Nat.ble pc 548 then (bif Nat.ble pc 546 then (bif Nat.ble pc 545 then (bif Nat.beq pc 545 then js_c 1 1 else js_none) else (bif Nat.beq pc 546 then js_iadd else js_none)) else (bif Nat.ble pc 547 then (bif Nat.beq pc 547 then js_ald else js_none) else (bif Nat.beq pc 548 then js_v1 0 13 else js_none))) else (bif Nat.ble pc 552 then (bif Nat.ble pc 551 then (bif Nat.beq pc 551 then js_al 2 1 else js_none) else (bif Nat.beq pc 552 then js_al 0 1 else js_none)) else (bif Nat.beq pc 553 then js_il 3 1 else js_none))) else (bif Nat.ble pc 557 then (bif Nat.ble pc 555 then (bif Nat.ble pc 554 then (bif Nat.beq pc 554 then js_c 1 1 else js_none) else (bif Nat.beq pc 555 then js_iadd else js_none)) else (bif Nat.ble pc 556 then (bif Nat.beq pc 556 then js_ald else js_none) else (bif Nat.beq pc 557 then js_v1 8 131 else js_none))) else (bif Nat.ble pc 563 then (bif Nat.ble pc 560 then (bif Nat.beq pc 560 then js_ceq 660 else js_none) else (bif Nat.beq pc 563 then js_c 0 1 else js_none)) else (bif Nat.beq pc 564 then js_zr else js_none)))) else (bif Nat.ble pc 577 then (bif Nat.ble pc 570 then (bif Nat.ble pc 566 then (bif Nat.ble pc 565 then (bif Nat.beq pc 565 then js_al 1 1 else js_none) else (bif Nat.beq pc 566 then js_v0 0 14 else js_none)) else (bif Nat.ble pc 569 then (bif Nat.beq pc 569 then js_al 2 1 else js_none) else (bif Nat.beq pc 570 then js_v0 8 132 else js_none))) else (bif Nat.ble pc 576 then (bif Nat.ble pc 573 then (bif Nat.beq pc 573 then js_ceq 660 else js_none) else (bif Nat.beq pc 576 then js_c 0 1 else js_none)) else (bif Nat.beq pc 577 then js_zr else js_none))) else (bif Nat.ble pc 581 then (bif Nat.ble pc 579 then (bif Nat.ble pc 578 then (bif Nat.beq pc 578 then js_al 1 1 else js_none) else (bif Nat.beq pc 579 then js_al 0 1 else js_none)) else (bif Nat.ble pc 580 then (bif Nat.beq pc 580 then js_il 3 1 else js_none) else (bif Nat.beq pc 581 then js_c 1 1 else js_none))) else (bif Nat.ble pc 583 then (bif Nat.ble pc 582 then (bif Nat.beq pc 582 then js_iadd else js_none) else (bif Nat.beq pc 583 then js_ald else js_none)) else (bif Nat.beq pc 584 then js_al 0 1 else js_none)))))) else (bif Nat.ble pc 620 then (bif Nat.ble pc 600 then (bif Nat.ble pc 593 then (bif Nat.ble pc 588 then (bif Nat.ble pc 586 then (bif Nat.ble pc 585 then (bif Nat.beq pc 585 then js_il 3 1 else js_none) else (bif Nat.beq pc 586 then js_c 2 1 else js_none)) else (bif Nat.ble pc 587 then (bif Nat.beq pc 587 then js_iadd else js_none) else (bif Nat.beq pc 588 then js_ald else js_none))) else (bif Nat.ble pc 592 then (bif Nat.ble pc 589 then (bif Nat.beq pc 589 then js_v2 0 15 else js_none) else (bif Nat.beq pc 592 then js_al 2 1 else js_none)) else (bif Nat.beq pc 593 then js_al 0 1 else js_none))) else (bif Nat.ble pc 597 then (bif Nat.ble pc 595 then (bif Nat.ble pc 594 then (bif Nat.beq pc 594 then js_il 3 1 else js_none) else (bif Nat.beq pc 595 then js_c 1 1 else js_none)) else (bif Nat.ble pc 596 then (bif Nat.beq pc 596 then js_iadd else js_none) else (bif Nat.beq pc 597 then js_ald else js_none))) else (bif Nat.ble pc 599 then (bif Nat.ble pc 598 then (bif Nat.beq pc 598 then js_al 0 1 else js_none) else (bif Nat.beq pc 599 then js_il 3 1 else js_none)) else (bif Nat.beq pc 600 then js_c 2 1 else js_none)))) else (bif Nat.ble pc 611 then (bif Nat.ble pc 606 then (bif Nat.ble pc 602 then (bif Nat.ble pc 601 then (bif Nat.beq pc 601 then js_iadd else js_none) else (bif Nat.beq pc 602 then js_ald else js_none)) else (bif Nat.ble pc 603 then (bif Nat.beq pc 603 then js_v2 8 133 else js_none) else (bif Nat.beq pc 606 then js_ceq 660 else js_none))) else (bif Nat.ble pc 610 then (bif Nat.ble pc 609 then (bif Nat.beq pc 609 then js_c 0 1 else js_none) else (bif Nat.beq pc 610 then js_zr else js_none)) else (bif Nat.beq pc 611 then js_al 1 1 else js_none))) else (bif Nat.ble pc 615 then (bif Nat.ble pc 613 then (bif Nat.ble pc 612 then (bif Nat.beq pc 612 then js_al 0 1 else js_none) else (bif Nat.beq pc 613 then js_il 3 1 else js_none)) else (bif Nat.ble pc 614 then (bif Nat.beq pc 614 then js_c 1 1 else js_none) else (bif Nat.beq pc 615 then js_iadd else js_none))) else (bif Nat.ble pc 617 then (bif Nat.ble pc 616 then (bif Nat.beq pc 616 then js_ald else js_none) else (bif Nat.beq pc 617 then js_v1 0 16 else js_none)) else (bif Nat.beq pc 620 then js_al 2 1 else js_none))))) else (bif Nat.ble pc 642 then (bif Nat.ble pc 629 then (bif Nat.ble pc 624 then (bif Nat.ble pc 622 then (bif Nat.ble pc 621 then (bif Nat.beq pc 621 then js_al 0 1 else js_none) else (bif Nat.beq pc 622 then js_il 3 1 else js_none)) else (bif Nat.ble pc 623 then (bif Nat.beq pc 623 then js_c 1 1 else js_none) else (bif Nat.beq pc 624 then js_iadd else js_none))) else (bif Nat.ble pc 626 then (bif Nat.ble pc 625 then (bif Nat.beq pc 625 then js_ald else js_none) else (bif Nat.beq pc 626 then js_v1 8 134 else js_none)) else (bif Nat.beq pc 629 then js_ceq 660 else js_none))) else (bif Nat.ble pc 635 then (bif Nat.ble pc 633 then (bif Nat.ble pc 632 then (bif Nat.beq pc 632 then js_c 0 1 else js_none) else (bif Nat.beq pc 633 then js_zr else js_none)) else (bif Nat.ble pc 634 then (bif Nat.beq pc 634 then js_al 1 1 else js_none) else (bif Nat.beq pc 635 then js_v0 0 17 else js_none))) else (bif Nat.ble pc 639 then (bif Nat.ble pc 638 then (bif Nat.beq pc 638 then js_al 2 1 else js_none) else (bif Nat.beq pc 639 then js_v0 8 135 else js_none)) else (bif Nat.beq pc 642 then js_ceq 660 else js_none)))) else (bif Nat.ble pc 655 then (bif Nat.ble pc 648 then (bif Nat.ble pc 646 then (bif Nat.ble pc 645 then (bif Nat.beq pc 645 then js_c 0 1 else js_none) else (bif Nat.beq pc 646 then js_zr else js_none)) else (bif Nat.ble pc 647 then (bif Nat.beq pc 647 then js_al 1 1 else js_none) else (bif Nat.beq pc 648 then js_v0 0 18 else js_none))) else (bif Nat.ble pc 652 then (bif Nat.ble pc 651 then (bif Nat.beq pc 651 then js_al 2 1 else js_none) else (bif Nat.beq pc 652 then js_v0 8 136 else js_none)) else (bif Nat.beq pc 655 then js_ceq 660 else js_none))) else (bif Nat.ble pc 660 then (bif Nat.ble pc 659 then (bif Nat.ble pc 658 then (bif Nat.beq pc 658 then js_c 0 1 else js_none) else (bif Nat.beq pc 659 then js_zr else js_none)) else (bif Nat.beq pc 660 then js_inc 3 6 else js_none)) else (bif Nat.ble pc 666 then (bif Nat.ble pc 663 then (bif Nat.beq pc 663 then js_go 28 else js_none) else (bif Nat.beq pc 666 then js_c 1 1 else js_none)) else (bif Nat.beq pc 667 then js_zr else js_none))))))))
theorem jk_138_3 : jx_Snd 138 3 (js_dup) := jo_dup jd_138_3
theorem jk_138_4 : jx_Snd 138 4 (js_al 0 1) := jo_aload_n (i := 0) (w := 0) rfl jd_138_4
theorem jk_138_5 : jx_Snd 138 5 (js_c 0 1) := jo_iconst (z := 0) jd_138_5 rfl
theorem jk_138_6 : jx_Snd 138 6 (js_s2 137) := jo_s2 rfl jok_137 (Or.inl jw_457) jw_458 jd_138_6
theorem jk_138_12 : jx_Snd 138 12 (js_as 1 1) := jo_astore_n (i := 1) (w := 1) rfl (Nat.le_of_ble_eq_true rfl) jd_138_12
theorem jk_138_16 : jx_Snd 138 16 (js_dup) := jo_dup jd_138_16
theorem jk_138_17 : jx_Snd 138 17 (js_al 0 1) := jo_aload_n (i := 0) (w := 0) rfl jd_138_17
theorem jk_138_18 : jx_Snd 138 18 (js_c 0 1) := jo_iconst (z := 0) jd_138_18 rfl
theorem jk_138_19 : jx_Snd 138 19 (js_s2 137) := jo_s2 rfl jok_137 (Or.inl jw_457) jw_458 jd_138_19
theorem jk_138_25 : jx_Snd 138 25 (js_as 2 1) := jo_astore_n (i := 2) (w := 2) rfl (Nat.le_of_ble_eq_true rfl) jd_138_25
theorem jk_138_26 : jx_Snd 138 26 (js_c 1 1) := jo_iconst (z := 1) jd_138_26 rfl
theorem jk_138_27 : jx_Snd 138 27 (js_is 3 1) := jo_istore_n (i := 3) (w := 3) rfl (Nat.le_of_ble_eq_true rfl) jd_138_27
theorem jk_138_28 : jx_Snd 138 28 (js_il 3 1) := jo_iload_n (i := 3) (w := 3) rfl jd_138_28
theorem jk_138_29 : jx_Snd 138 29 (js_al 0 1) := jo_aload_n (i := 0) (w := 0) rfl jd_138_29
theorem jk_138_30 : jx_Snd 138 30 (js_len) := jo_len jd_138_30
theorem jk_138_31 : jx_Snd 138 31 (js_c 6 2) := jo_bipush (z := 6) jd_138_31 (by decide +kernel)
theorem jk_138_33 : jx_Snd 138 33 (js_isub) := jo_isub jd_138_33
theorem jk_138_34 : jx_Snd 138 34 (js_cgt 666) := jo_cgt (o := 632) rfl jd_138_34
theorem jk_138_37 : jx_Snd 138 37 (js_al 0 1) := jo_aload_n (i := 0) (w := 0) rfl jd_138_37
theorem jk_138_38 : jx_Snd 138 38 (js_il 3 1) := jo_iload_n (i := 3) (w := 3) rfl jd_138_38
theorem jk_138_39 : jx_Snd 138 39 (js_ald) := jo_ald jd_138_39
theorem jk_138_40 : jx_Snd 138 40 (js_c 31 2) := jo_bipush (z := 31) jd_138_40 (by decide +kernel)
theorem jk_138_42 : jx_Snd 138 42 (js_iand) := jo_iand jd_138_42
theorem jk_138_43 : jx_Snd 138 43 (js_sw [(0, 128), (1, 191), (2, 204), (3, 257), (4, 280), (5, 291), (6, 324), (7, 387), (8, 430), (9, 493), (10, 516), (11, 529), (12, 542), (13, 565), (14, 578), (15, 611), (16, 634), (17, 647)] 660) := jo_tableD (dflt := 617) (lo := 0) (hi := 17) (offs := #[85, 148, 161, 214, 237, 248, 281, 344, 387, 450, 473, 486, 499, 522, 535, 568, 591, 604]) rfl rfl (by decide +kernel) jd_138_43
theorem jk_138_128 : jx_Snd 138 128 (js_al 1 1) := jo_aload_n (i := 1) (w := 1) rfl jd_138_128
theorem jk_138_129 : jx_Snd 138 129 (js_al 0 1) := jo_aload_n (i := 0) (w := 0) rfl jd_138_129
theorem jk_138_130 : jx_Snd 138 130 (js_il 3 1) := jo_iload_n (i := 3) (w := 3) rfl jd_138_130
theorem jk_138_131 : jx_Snd 138 131 (js_c 1 1) := jo_iconst (z := 1) jd_138_131 rfl
theorem jk_138_132 : jx_Snd 138 132 (js_iadd) := jo_iadd jd_138_132
theorem jk_138_133 : jx_Snd 138 133 (js_ald) := jo_ald jd_138_133
theorem jk_138_134 : jx_Snd 138 134 (js_i2l) := jo_i2l jd_138_134
theorem jk_138_135 : jx_Snd 138 135 (js_c 32 2) := jo_bipush (z := 32) jd_138_135 (by decide +kernel)
theorem jk_138_137 : jx_Snd 138 137 (js_lshl) := jo_lshl jd_138_137
theorem jk_138_138 : jx_Snd 138 138 (js_al 0 1) := jo_aload_n (i := 0) (w := 0) rfl jd_138_138
theorem jk_138_139 : jx_Snd 138 139 (js_il 3 1) := jo_iload_n (i := 3) (w := 3) rfl jd_138_139
theorem jk_138_140 : jx_Snd 138 140 (js_c 2 1) := jo_iconst (z := 2) jd_138_140 rfl
theorem jk_138_141 : jx_Snd 138 141 (js_iadd) := jo_iadd jd_138_141
theorem jk_138_142 : jx_Snd 138 142 (js_ald) := jo_ald jd_138_142
theorem jk_138_143 : jx_Snd 138 143 (js_i2l) := jo_i2l jd_138_143
theorem jk_138_144 : jx_Snd 138 144 (js_cl 4294967295 3) := jo_ldc2 (ix := 21) rfl jw_684 jd_138_144
theorem jk_138_147 : jx_Snd 138 147 (js_land) := jo_land jd_138_147
theorem jk_138_148 : jx_Snd 138 148 (js_lor) := jo_lor jd_138_148
theorem jk_138_149 : jx_Snd 138 149 (js_al 0 1) := jo_aload_n (i := 0) (w := 0) rfl jd_138_149
theorem jk_138_150 : jx_Snd 138 150 (js_il 3 1) := jo_iload_n (i := 3) (w := 3) rfl jd_138_150
theorem jk_138_151 : jx_Snd 138 151 (js_c 3 1) := jo_iconst (z := 3) jd_138_151 rfl
theorem jk_138_152 : jx_Snd 138 152 (js_iadd) := jo_iadd jd_138_152
theorem jk_138_153 : jx_Snd 138 153 (js_ald) := jo_ald jd_138_153
theorem jk_138_154 : jx_Snd 138 154 (js_v2 0 1) := jo_v2 rfl jok_1 (Or.inl jw_168) jw_169 jw_170 rfl jd_138_154
theorem jk_138_157 : jx_Snd 138 157 (js_al 2 1) := jo_aload_n (i := 2) (w := 2) rfl jd_138_157
theorem jk_138_158 : jx_Snd 138 158 (js_al 0 1) := jo_aload_n (i := 0) (w := 0) rfl jd_138_158
theorem jk_138_159 : jx_Snd 138 159 (js_il 3 1) := jo_iload_n (i := 3) (w := 3) rfl jd_138_159
theorem jk_138_160 : jx_Snd 138 160 (js_c 1 1) := jo_iconst (z := 1) jd_138_160 rfl
theorem jk_138_161 : jx_Snd 138 161 (js_iadd) := jo_iadd jd_138_161
theorem jk_138_162 : jx_Snd 138 162 (js_ald) := jo_ald jd_138_162
theorem jk_138_163 : jx_Snd 138 163 (js_i2l) := jo_i2l jd_138_163
theorem jk_138_164 : jx_Snd 138 164 (js_c 32 2) := jo_bipush (z := 32) jd_138_164 (by decide +kernel)
theorem jk_138_166 : jx_Snd 138 166 (js_lshl) := jo_lshl jd_138_166
theorem jk_138_167 : jx_Snd 138 167 (js_al 0 1) := jo_aload_n (i := 0) (w := 0) rfl jd_138_167
theorem jk_138_168 : jx_Snd 138 168 (js_il 3 1) := jo_iload_n (i := 3) (w := 3) rfl jd_138_168
theorem jk_138_169 : jx_Snd 138 169 (js_c 2 1) := jo_iconst (z := 2) jd_138_169 rfl
theorem jk_138_170 : jx_Snd 138 170 (js_iadd) := jo_iadd jd_138_170
theorem jk_138_171 : jx_Snd 138 171 (js_ald) := jo_ald jd_138_171
theorem jk_138_172 : jx_Snd 138 172 (js_i2l) := jo_i2l jd_138_172
theorem jk_138_173 : jx_Snd 138 173 (js_cl 4294967295 3) := jo_ldc2 (ix := 21) rfl jw_684 jd_138_173
theorem jk_138_176 : jx_Snd 138 176 (js_land) := jo_land jd_138_176
theorem jk_138_177 : jx_Snd 138 177 (js_lor) := jo_lor jd_138_177
theorem jk_138_178 : jx_Snd 138 178 (js_al 0 1) := jo_aload_n (i := 0) (w := 0) rfl jd_138_178
theorem jk_138_179 : jx_Snd 138 179 (js_il 3 1) := jo_iload_n (i := 3) (w := 3) rfl jd_138_179
theorem jk_138_180 : jx_Snd 138 180 (js_c 3 1) := jo_iconst (z := 3) jd_138_180 rfl
theorem jk_138_181 : jx_Snd 138 181 (js_iadd) := jo_iadd jd_138_181
theorem jk_138_182 : jx_Snd 138 182 (js_ald) := jo_ald jd_138_182
theorem jk_138_183 : jx_Snd 138 183 (js_v2 8 90) := jo_v2 rfl jok_90 (Or.inl jw_516) jw_517 jw_518 rfl jd_138_183
theorem jk_138_186 : jx_Snd 138 186 (js_ceq 660) := jo_ceq (o := 474) rfl jd_138_186
theorem jk_138_189 : jx_Snd 138 189 (js_c 0 1) := jo_iconst (z := 0) jd_138_189 rfl
theorem jk_138_190 : jx_Snd 138 190 (js_zr) := jo_zr rfl jd_138_190
theorem jk_138_191 : jx_Snd 138 191 (js_al 1 1) := jo_aload_n (i := 1) (w := 1) rfl jd_138_191
theorem jk_138_192 : jx_Snd 138 192 (js_v0 0 2) := jo_v0 rfl jok_2 (Or.inl jw_176) jw_177 jw_178 rfl jd_138_192
theorem jk_138_195 : jx_Snd 138 195 (js_al 2 1) := jo_aload_n (i := 2) (w := 2) rfl jd_138_195
theorem jk_138_196 : jx_Snd 138 196 (js_v0 8 92) := jo_v0 rfl jok_92 (Or.inl jw_521) jw_522 jw_523 rfl jd_138_196
theorem jk_138_199 : jx_Snd 138 199 (js_ceq 660) := jo_ceq (o := 461) rfl jd_138_199
theorem jk_138_202 : jx_Snd 138 202 (js_c 0 1) := jo_iconst (z := 0) jd_138_202 rfl
theorem jk_138_203 : jx_Snd 138 203 (js_zr) := jo_zr rfl jd_138_203
theorem jk_138_204 : jx_Snd 138 204 (js_al 1 1) := jo_aload_n (i := 1) (w := 1) rfl jd_138_204
theorem jk_138_205 : jx_Snd 138 205 (js_al 0 1) := jo_aload_n (i := 0) (w := 0) rfl jd_138_205
theorem jk_138_206 : jx_Snd 138 206 (js_il 3 1) := jo_iload_n (i := 3) (w := 3) rfl jd_138_206
theorem jk_138_207 : jx_Snd 138 207 (js_c 1 1) := jo_iconst (z := 1) jd_138_207 rfl
theorem jk_138_208 : jx_Snd 138 208 (js_iadd) := jo_iadd jd_138_208
theorem jk_138_209 : jx_Snd 138 209 (js_ald) := jo_ald jd_138_209
theorem jk_138_210 : jx_Snd 138 210 (js_al 0 1) := jo_aload_n (i := 0) (w := 0) rfl jd_138_210
theorem jk_138_211 : jx_Snd 138 211 (js_il 3 1) := jo_iload_n (i := 3) (w := 3) rfl jd_138_211
theorem jk_138_212 : jx_Snd 138 212 (js_c 2 1) := jo_iconst (z := 2) jd_138_212 rfl
theorem jk_138_213 : jx_Snd 138 213 (js_iadd) := jo_iadd jd_138_213
theorem jk_138_214 : jx_Snd 138 214 (js_ald) := jo_ald jd_138_214
theorem jk_138_215 : jx_Snd 138 215 (js_al 0 1) := jo_aload_n (i := 0) (w := 0) rfl jd_138_215
theorem jk_138_216 : jx_Snd 138 216 (js_il 3 1) := jo_iload_n (i := 3) (w := 3) rfl jd_138_216
theorem jk_138_217 : jx_Snd 138 217 (js_c 3 1) := jo_iconst (z := 3) jd_138_217 rfl
theorem jk_138_218 : jx_Snd 138 218 (js_iadd) := jo_iadd jd_138_218
theorem jk_138_219 : jx_Snd 138 219 (js_ald) := jo_ald jd_138_219
theorem jk_138_220 : jx_Snd 138 220 (js_al 0 1) := jo_aload_n (i := 0) (w := 0) rfl jd_138_220
theorem jk_138_221 : jx_Snd 138 221 (js_il 3 1) := jo_iload_n (i := 3) (w := 3) rfl jd_138_221
theorem jk_138_222 : jx_Snd 138 222 (js_c 4 1) := jo_iconst (z := 4) jd_138_222 rfl
theorem jk_138_223 : jx_Snd 138 223 (js_iadd) := jo_iadd jd_138_223
theorem jk_138_224 : jx_Snd 138 224 (js_ald) := jo_ald jd_138_224
theorem jk_138_225 : jx_Snd 138 225 (js_v4 0 3) := jo_v4 rfl jok_3 (Or.inl jw_194) jw_195 jw_196 rfl jd_138_225
theorem jk_138_228 : jx_Snd 138 228 (js_al 2 1) := jo_aload_n (i := 2) (w := 2) rfl jd_138_228
theorem jk_138_229 : jx_Snd 138 229 (js_al 0 1) := jo_aload_n (i := 0) (w := 0) rfl jd_138_229
theorem jk_138_230 : jx_Snd 138 230 (js_il 3 1) := jo_iload_n (i := 3) (w := 3) rfl jd_138_230
theorem jk_138_231 : jx_Snd 138 231 (js_c 1 1) := jo_iconst (z := 1) jd_138_231 rfl
theorem jk_138_232 : jx_Snd 138 232 (js_iadd) := jo_iadd jd_138_232
theorem jk_138_233 : jx_Snd 138 233 (js_ald) := jo_ald jd_138_233
theorem jk_138_234 : jx_Snd 138 234 (js_al 0 1) := jo_aload_n (i := 0) (w := 0) rfl jd_138_234
theorem jk_138_235 : jx_Snd 138 235 (js_il 3 1) := jo_iload_n (i := 3) (w := 3) rfl jd_138_235
theorem jk_138_236 : jx_Snd 138 236 (js_c 2 1) := jo_iconst (z := 2) jd_138_236 rfl
theorem jk_138_237 : jx_Snd 138 237 (js_iadd) := jo_iadd jd_138_237
theorem jk_138_238 : jx_Snd 138 238 (js_ald) := jo_ald jd_138_238
theorem jk_138_239 : jx_Snd 138 239 (js_al 0 1) := jo_aload_n (i := 0) (w := 0) rfl jd_138_239
theorem jk_138_240 : jx_Snd 138 240 (js_il 3 1) := jo_iload_n (i := 3) (w := 3) rfl jd_138_240
theorem jk_138_241 : jx_Snd 138 241 (js_c 3 1) := jo_iconst (z := 3) jd_138_241 rfl
theorem jk_138_242 : jx_Snd 138 242 (js_iadd) := jo_iadd jd_138_242
theorem jk_138_243 : jx_Snd 138 243 (js_ald) := jo_ald jd_138_243
theorem jk_138_244 : jx_Snd 138 244 (js_al 0 1) := jo_aload_n (i := 0) (w := 0) rfl jd_138_244
theorem jk_138_245 : jx_Snd 138 245 (js_il 3 1) := jo_iload_n (i := 3) (w := 3) rfl jd_138_245
theorem jk_138_246 : jx_Snd 138 246 (js_c 4 1) := jo_iconst (z := 4) jd_138_246 rfl
theorem jk_138_247 : jx_Snd 138 247 (js_iadd) := jo_iadd jd_138_247
theorem jk_138_248 : jx_Snd 138 248 (js_ald) := jo_ald jd_138_248
theorem jk_138_249 : jx_Snd 138 249 (js_v4 8 108) := jo_v4 rfl jok_108 (Or.inl jw_528) jw_529 jw_530 rfl jd_138_249
theorem jk_138_252 : jx_Snd 138 252 (js_ceq 660) := jo_ceq (o := 408) rfl jd_138_252
theorem jk_138_255 : jx_Snd 138 255 (js_c 0 1) := jo_iconst (z := 0) jd_138_255 rfl
theorem jk_138_256 : jx_Snd 138 256 (js_zr) := jo_zr rfl jd_138_256
theorem jk_138_257 : jx_Snd 138 257 (js_al 1 1) := jo_aload_n (i := 1) (w := 1) rfl jd_138_257
theorem jk_138_258 : jx_Snd 138 258 (js_al 0 1) := jo_aload_n (i := 0) (w := 0) rfl jd_138_258
theorem jk_138_259 : jx_Snd 138 259 (js_il 3 1) := jo_iload_n (i := 3) (w := 3) rfl jd_138_259
theorem jk_138_260 : jx_Snd 138 260 (js_c 1 1) := jo_iconst (z := 1) jd_138_260 rfl
theorem jk_138_261 : jx_Snd 138 261 (js_iadd) := jo_iadd jd_138_261
theorem jk_138_262 : jx_Snd 138 262 (js_ald) := jo_ald jd_138_262
theorem jk_138_263 : jx_Snd 138 263 (js_v1 0 4) := jo_v1 rfl jok_4 (Or.inl jw_290) jw_291 jw_292 rfl jd_138_263
theorem jk_138_266 : jx_Snd 138 266 (js_al 2 1) := jo_aload_n (i := 2) (w := 2) rfl jd_138_266
theorem jk_138_267 : jx_Snd 138 267 (js_al 0 1) := jo_aload_n (i := 0) (w := 0) rfl jd_138_267
theorem jk_138_268 : jx_Snd 138 268 (js_il 3 1) := jo_iload_n (i := 3) (w := 3) rfl jd_138_268
theorem jk_138_269 : jx_Snd 138 269 (js_c 1 1) := jo_iconst (z := 1) jd_138_269 rfl
theorem jk_138_270 : jx_Snd 138 270 (js_iadd) := jo_iadd jd_138_270
theorem jk_138_271 : jx_Snd 138 271 (js_ald) := jo_ald jd_138_271
theorem jk_138_272 : jx_Snd 138 272 (js_v1 8 109) := jo_v1 rfl jok_109 (Or.inl jw_580) jw_581 jw_582 rfl jd_138_272
theorem jk_138_275 : jx_Snd 138 275 (js_ceq 660) := jo_ceq (o := 385) rfl jd_138_275
theorem jk_138_278 : jx_Snd 138 278 (js_c 0 1) := jo_iconst (z := 0) jd_138_278 rfl
theorem jk_138_279 : jx_Snd 138 279 (js_zr) := jo_zr rfl jd_138_279
theorem jk_138_280 : jx_Snd 138 280 (js_al 1 1) := jo_aload_n (i := 1) (w := 1) rfl jd_138_280
theorem jk_138_281 : jx_Snd 138 281 (js_v0 0 5) := jo_v0 rfl jok_5 (Or.inl jw_294) jw_295 jw_296 rfl jd_138_281
theorem jk_138_284 : jx_Snd 138 284 (js_al 2 1) := jo_aload_n (i := 2) (w := 2) rfl jd_138_284
theorem jk_138_285 : jx_Snd 138 285 (js_v0 8 110) := jo_v0 rfl jok_110 (Or.inl jw_584) jw_585 jw_586 rfl jd_138_285
theorem jk_138_288 : jx_Snd 138 288 (js_go 660) := jo_goto (o := 372) rfl jd_138_288
theorem jk_138_291 : jx_Snd 138 291 (js_al 1 1) := jo_aload_n (i := 1) (w := 1) rfl jd_138_291
theorem jk_138_292 : jx_Snd 138 292 (js_al 0 1) := jo_aload_n (i := 0) (w := 0) rfl jd_138_292
theorem jk_138_293 : jx_Snd 138 293 (js_il 3 1) := jo_iload_n (i := 3) (w := 3) rfl jd_138_293
theorem jk_138_294 : jx_Snd 138 294 (js_c 1 1) := jo_iconst (z := 1) jd_138_294 rfl
theorem jk_138_295 : jx_Snd 138 295 (js_iadd) := jo_iadd jd_138_295
theorem jk_138_296 : jx_Snd 138 296 (js_ald) := jo_ald jd_138_296
theorem jk_138_297 : jx_Snd 138 297 (js_al 0 1) := jo_aload_n (i := 0) (w := 0) rfl jd_138_297
theorem jk_138_298 : jx_Snd 138 298 (js_il 3 1) := jo_iload_n (i := 3) (w := 3) rfl jd_138_298
theorem jk_138_299 : jx_Snd 138 299 (js_c 2 1) := jo_iconst (z := 2) jd_138_299 rfl
theorem jk_138_300 : jx_Snd 138 300 (js_iadd) := jo_iadd jd_138_300
theorem jk_138_301 : jx_Snd 138 301 (js_ald) := jo_ald jd_138_301
theorem jk_138_302 : jx_Snd 138 302 (js_v2 0 6) := jo_v2 rfl jok_6 (Or.inl jw_299) jw_300 jw_301 rfl jd_138_302
theorem jk_138_305 : jx_Snd 138 305 (js_al 2 1) := jo_aload_n (i := 2) (w := 2) rfl jd_138_305
theorem jk_138_306 : jx_Snd 138 306 (js_al 0 1) := jo_aload_n (i := 0) (w := 0) rfl jd_138_306
theorem jk_138_307 : jx_Snd 138 307 (js_il 3 1) := jo_iload_n (i := 3) (w := 3) rfl jd_138_307
theorem jk_138_308 : jx_Snd 138 308 (js_c 1 1) := jo_iconst (z := 1) jd_138_308 rfl
theorem jk_138_309 : jx_Snd 138 309 (js_iadd) := jo_iadd jd_138_309
theorem jk_138_310 : jx_Snd 138 310 (js_ald) := jo_ald jd_138_310
theorem jk_138_311 : jx_Snd 138 311 (js_al 0 1) := jo_aload_n (i := 0) (w := 0) rfl jd_138_311
theorem jk_138_312 : jx_Snd 138 312 (js_il 3 1) := jo_iload_n (i := 3) (w := 3) rfl jd_138_312
theorem jk_138_313 : jx_Snd 138 313 (js_c 2 1) := jo_iconst (z := 2) jd_138_313 rfl
theorem jk_138_314 : jx_Snd 138 314 (js_iadd) := jo_iadd jd_138_314
theorem jk_138_315 : jx_Snd 138 315 (js_ald) := jo_ald jd_138_315
theorem jk_138_316 : jx_Snd 138 316 (js_v2 8 112) := jo_v2 rfl jok_112 (Or.inl jw_588) jw_589 jw_590 rfl jd_138_316
theorem jk_138_319 : jx_Snd 138 319 (js_ceq 660) := jo_ceq (o := 341) rfl jd_138_319
theorem jk_138_322 : jx_Snd 138 322 (js_c 0 1) := jo_iconst (z := 0) jd_138_322 rfl
theorem jk_138_323 : jx_Snd 138 323 (js_zr) := jo_zr rfl jd_138_323
theorem jk_138_324 : jx_Snd 138 324 (js_al 1 1) := jo_aload_n (i := 1) (w := 1) rfl jd_138_324
theorem jk_138_325 : jx_Snd 138 325 (js_al 0 1) := jo_aload_n (i := 0) (w := 0) rfl jd_138_325
theorem jk_138_326 : jx_Snd 138 326 (js_il 3 1) := jo_iload_n (i := 3) (w := 3) rfl jd_138_326
theorem jk_138_327 : jx_Snd 138 327 (js_c 1 1) := jo_iconst (z := 1) jd_138_327 rfl
theorem jk_138_328 : jx_Snd 138 328 (js_iadd) := jo_iadd jd_138_328
theorem jk_138_329 : jx_Snd 138 329 (js_ald) := jo_ald jd_138_329
theorem jk_138_330 : jx_Snd 138 330 (js_al 0 1) := jo_aload_n (i := 0) (w := 0) rfl jd_138_330
theorem jk_138_331 : jx_Snd 138 331 (js_il 3 1) := jo_iload_n (i := 3) (w := 3) rfl jd_138_331
theorem jk_138_332 : jx_Snd 138 332 (js_c 2 1) := jo_iconst (z := 2) jd_138_332 rfl
theorem jk_138_333 : jx_Snd 138 333 (js_iadd) := jo_iadd jd_138_333
theorem jk_138_334 : jx_Snd 138 334 (js_ald) := jo_ald jd_138_334
theorem jk_138_335 : jx_Snd 138 335 (js_al 0 1) := jo_aload_n (i := 0) (w := 0) rfl jd_138_335
theorem jk_138_336 : jx_Snd 138 336 (js_il 3 1) := jo_iload_n (i := 3) (w := 3) rfl jd_138_336
theorem jk_138_337 : jx_Snd 138 337 (js_c 3 1) := jo_iconst (z := 3) jd_138_337 rfl
theorem jk_138_338 : jx_Snd 138 338 (js_iadd) := jo_iadd jd_138_338
theorem jk_138_339 : jx_Snd 138 339 (js_ald) := jo_ald jd_138_339
theorem jk_138_340 : jx_Snd 138 340 (js_al 0 1) := jo_aload_n (i := 0) (w := 0) rfl jd_138_340
theorem jk_138_341 : jx_Snd 138 341 (js_il 3 1) := jo_iload_n (i := 3) (w := 3) rfl jd_138_341
theorem jk_138_342 : jx_Snd 138 342 (js_c 4 1) := jo_iconst (z := 4) jd_138_342 rfl
theorem jk_138_343 : jx_Snd 138 343 (js_iadd) := jo_iadd jd_138_343
theorem jk_138_344 : jx_Snd 138 344 (js_ald) := jo_ald jd_138_344
theorem jk_138_345 : jx_Snd 138 345 (js_al 0 1) := jo_aload_n (i := 0) (w := 0) rfl jd_138_345
theorem jk_138_346 : jx_Snd 138 346 (js_il 3 1) := jo_iload_n (i := 3) (w := 3) rfl jd_138_346
theorem jk_138_347 : jx_Snd 138 347 (js_c 5 1) := jo_iconst (z := 5) jd_138_347 rfl
theorem jk_138_348 : jx_Snd 138 348 (js_iadd) := jo_iadd jd_138_348
theorem jk_138_349 : jx_Snd 138 349 (js_ald) := jo_ald jd_138_349
theorem jk_138_350 : jx_Snd 138 350 (js_v5 0 7) := jo_v5 rfl jok_7 (Or.inl jw_311) jw_312 jw_313 rfl jd_138_350
theorem jk_138_353 : jx_Snd 138 353 (js_al 2 1) := jo_aload_n (i := 2) (w := 2) rfl jd_138_353
theorem jk_138_354 : jx_Snd 138 354 (js_al 0 1) := jo_aload_n (i := 0) (w := 0) rfl jd_138_354
theorem jk_138_355 : jx_Snd 138 355 (js_il 3 1) := jo_iload_n (i := 3) (w := 3) rfl jd_138_355
theorem jk_138_356 : jx_Snd 138 356 (js_c 1 1) := jo_iconst (z := 1) jd_138_356 rfl
theorem jk_138_357 : jx_Snd 138 357 (js_iadd) := jo_iadd jd_138_357
theorem jk_138_358 : jx_Snd 138 358 (js_ald) := jo_ald jd_138_358
theorem jk_138_359 : jx_Snd 138 359 (js_al 0 1) := jo_aload_n (i := 0) (w := 0) rfl jd_138_359
theorem jk_138_360 : jx_Snd 138 360 (js_il 3 1) := jo_iload_n (i := 3) (w := 3) rfl jd_138_360
theorem jk_138_361 : jx_Snd 138 361 (js_c 2 1) := jo_iconst (z := 2) jd_138_361 rfl
theorem jk_138_362 : jx_Snd 138 362 (js_iadd) := jo_iadd jd_138_362
theorem jk_138_363 : jx_Snd 138 363 (js_ald) := jo_ald jd_138_363
theorem jk_138_364 : jx_Snd 138 364 (js_al 0 1) := jo_aload_n (i := 0) (w := 0) rfl jd_138_364
theorem jk_138_365 : jx_Snd 138 365 (js_il 3 1) := jo_iload_n (i := 3) (w := 3) rfl jd_138_365
theorem jk_138_366 : jx_Snd 138 366 (js_c 3 1) := jo_iconst (z := 3) jd_138_366 rfl
theorem jk_138_367 : jx_Snd 138 367 (js_iadd) := jo_iadd jd_138_367
theorem jk_138_368 : jx_Snd 138 368 (js_ald) := jo_ald jd_138_368
theorem jk_138_369 : jx_Snd 138 369 (js_al 0 1) := jo_aload_n (i := 0) (w := 0) rfl jd_138_369
theorem jk_138_370 : jx_Snd 138 370 (js_il 3 1) := jo_iload_n (i := 3) (w := 3) rfl jd_138_370
theorem jk_138_371 : jx_Snd 138 371 (js_c 4 1) := jo_iconst (z := 4) jd_138_371 rfl
theorem jk_138_372 : jx_Snd 138 372 (js_iadd) := jo_iadd jd_138_372
theorem jk_138_373 : jx_Snd 138 373 (js_ald) := jo_ald jd_138_373
theorem jk_138_374 : jx_Snd 138 374 (js_al 0 1) := jo_aload_n (i := 0) (w := 0) rfl jd_138_374
theorem jk_138_375 : jx_Snd 138 375 (js_il 3 1) := jo_iload_n (i := 3) (w := 3) rfl jd_138_375
theorem jk_138_376 : jx_Snd 138 376 (js_c 5 1) := jo_iconst (z := 5) jd_138_376 rfl
theorem jk_138_377 : jx_Snd 138 377 (js_iadd) := jo_iadd jd_138_377
theorem jk_138_378 : jx_Snd 138 378 (js_ald) := jo_ald jd_138_378
theorem jk_138_379 : jx_Snd 138 379 (js_v5 8 113) := jo_v5 rfl jok_113 (Or.inl jw_595) jw_596 jw_597 rfl jd_138_379
theorem jk_138_382 : jx_Snd 138 382 (js_ceq 660) := jo_ceq (o := 278) rfl jd_138_382
theorem jk_138_385 : jx_Snd 138 385 (js_c 0 1) := jo_iconst (z := 0) jd_138_385 rfl
theorem jk_138_386 : jx_Snd 138 386 (js_zr) := jo_zr rfl jd_138_386
theorem jk_138_387 : jx_Snd 138 387 (js_al 1 1) := jo_aload_n (i := 1) (w := 1) rfl jd_138_387
theorem jk_138_388 : jx_Snd 138 388 (js_al 0 1) := jo_aload_n (i := 0) (w := 0) rfl jd_138_388
theorem jk_138_389 : jx_Snd 138 389 (js_il 3 1) := jo_iload_n (i := 3) (w := 3) rfl jd_138_389
theorem jk_138_390 : jx_Snd 138 390 (js_c 1 1) := jo_iconst (z := 1) jd_138_390 rfl
theorem jk_138_391 : jx_Snd 138 391 (js_iadd) := jo_iadd jd_138_391
theorem jk_138_392 : jx_Snd 138 392 (js_ald) := jo_ald jd_138_392
theorem jk_138_393 : jx_Snd 138 393 (js_al 0 1) := jo_aload_n (i := 0) (w := 0) rfl jd_138_393
theorem jk_138_394 : jx_Snd 138 394 (js_il 3 1) := jo_iload_n (i := 3) (w := 3) rfl jd_138_394
theorem jk_138_395 : jx_Snd 138 395 (js_c 2 1) := jo_iconst (z := 2) jd_138_395 rfl
theorem jk_138_396 : jx_Snd 138 396 (js_iadd) := jo_iadd jd_138_396
theorem jk_138_397 : jx_Snd 138 397 (js_ald) := jo_ald jd_138_397
theorem jk_138_398 : jx_Snd 138 398 (js_al 0 1) := jo_aload_n (i := 0) (w := 0) rfl jd_138_398
theorem jk_138_399 : jx_Snd 138 399 (js_il 3 1) := jo_iload_n (i := 3) (w := 3) rfl jd_138_399
theorem jk_138_400 : jx_Snd 138 400 (js_c 3 1) := jo_iconst (z := 3) jd_138_400 rfl
theorem jk_138_401 : jx_Snd 138 401 (js_iadd) := jo_iadd jd_138_401
theorem jk_138_402 : jx_Snd 138 402 (js_ald) := jo_ald jd_138_402
theorem jk_138_403 : jx_Snd 138 403 (js_v3 0 8) := jo_v3 rfl jok_8 (Or.inl jw_321) jw_322 jw_323 rfl jd_138_403
theorem jk_138_406 : jx_Snd 138 406 (js_al 2 1) := jo_aload_n (i := 2) (w := 2) rfl jd_138_406
theorem jk_138_407 : jx_Snd 138 407 (js_al 0 1) := jo_aload_n (i := 0) (w := 0) rfl jd_138_407
theorem jk_138_408 : jx_Snd 138 408 (js_il 3 1) := jo_iload_n (i := 3) (w := 3) rfl jd_138_408
theorem jk_138_409 : jx_Snd 138 409 (js_c 1 1) := jo_iconst (z := 1) jd_138_409 rfl
theorem jk_138_410 : jx_Snd 138 410 (js_iadd) := jo_iadd jd_138_410
theorem jk_138_411 : jx_Snd 138 411 (js_ald) := jo_ald jd_138_411
theorem jk_138_412 : jx_Snd 138 412 (js_al 0 1) := jo_aload_n (i := 0) (w := 0) rfl jd_138_412
theorem jk_138_413 : jx_Snd 138 413 (js_il 3 1) := jo_iload_n (i := 3) (w := 3) rfl jd_138_413
theorem jk_138_414 : jx_Snd 138 414 (js_c 2 1) := jo_iconst (z := 2) jd_138_414 rfl
theorem jk_138_415 : jx_Snd 138 415 (js_iadd) := jo_iadd jd_138_415
theorem jk_138_416 : jx_Snd 138 416 (js_ald) := jo_ald jd_138_416
theorem jk_138_417 : jx_Snd 138 417 (js_al 0 1) := jo_aload_n (i := 0) (w := 0) rfl jd_138_417
theorem jk_138_418 : jx_Snd 138 418 (js_il 3 1) := jo_iload_n (i := 3) (w := 3) rfl jd_138_418
theorem jk_138_419 : jx_Snd 138 419 (js_c 3 1) := jo_iconst (z := 3) jd_138_419 rfl
theorem jk_138_420 : jx_Snd 138 420 (js_iadd) := jo_iadd jd_138_420
theorem jk_138_421 : jx_Snd 138 421 (js_ald) := jo_ald jd_138_421
theorem jk_138_422 : jx_Snd 138 422 (js_v3 8 114) := jo_v3 rfl jok_114 (Or.inl jw_600) jw_601 jw_602 rfl jd_138_422
theorem jk_138_425 : jx_Snd 138 425 (js_ceq 660) := jo_ceq (o := 235) rfl jd_138_425
theorem jk_138_428 : jx_Snd 138 428 (js_c 0 1) := jo_iconst (z := 0) jd_138_428 rfl
theorem jk_138_429 : jx_Snd 138 429 (js_zr) := jo_zr rfl jd_138_429
theorem jk_138_430 : jx_Snd 138 430 (js_al 1 1) := jo_aload_n (i := 1) (w := 1) rfl jd_138_430
theorem jk_138_431 : jx_Snd 138 431 (js_al 0 1) := jo_aload_n (i := 0) (w := 0) rfl jd_138_431
theorem jk_138_432 : jx_Snd 138 432 (js_il 3 1) := jo_iload_n (i := 3) (w := 3) rfl jd_138_432
theorem jk_138_433 : jx_Snd 138 433 (js_c 1 1) := jo_iconst (z := 1) jd_138_433 rfl
theorem jk_138_434 : jx_Snd 138 434 (js_iadd) := jo_iadd jd_138_434
theorem jk_138_435 : jx_Snd 138 435 (js_ald) := jo_ald jd_138_435
theorem jk_138_436 : jx_Snd 138 436 (js_al 0 1) := jo_aload_n (i := 0) (w := 0) rfl jd_138_436
theorem jk_138_437 : jx_Snd 138 437 (js_il 3 1) := jo_iload_n (i := 3) (w := 3) rfl jd_138_437
theorem jk_138_438 : jx_Snd 138 438 (js_c 2 1) := jo_iconst (z := 2) jd_138_438 rfl
theorem jk_138_439 : jx_Snd 138 439 (js_iadd) := jo_iadd jd_138_439
theorem jk_138_440 : jx_Snd 138 440 (js_ald) := jo_ald jd_138_440
theorem jk_138_441 : jx_Snd 138 441 (js_al 0 1) := jo_aload_n (i := 0) (w := 0) rfl jd_138_441
theorem jk_138_442 : jx_Snd 138 442 (js_il 3 1) := jo_iload_n (i := 3) (w := 3) rfl jd_138_442
theorem jk_138_443 : jx_Snd 138 443 (js_c 3 1) := jo_iconst (z := 3) jd_138_443 rfl
theorem jk_138_444 : jx_Snd 138 444 (js_iadd) := jo_iadd jd_138_444
theorem jk_138_445 : jx_Snd 138 445 (js_ald) := jo_ald jd_138_445
theorem jk_138_446 : jx_Snd 138 446 (js_al 0 1) := jo_aload_n (i := 0) (w := 0) rfl jd_138_446
theorem jk_138_447 : jx_Snd 138 447 (js_il 3 1) := jo_iload_n (i := 3) (w := 3) rfl jd_138_447
theorem jk_138_448 : jx_Snd 138 448 (js_c 4 1) := jo_iconst (z := 4) jd_138_448 rfl
theorem jk_138_449 : jx_Snd 138 449 (js_iadd) := jo_iadd jd_138_449
theorem jk_138_450 : jx_Snd 138 450 (js_ald) := jo_ald jd_138_450
theorem jk_138_451 : jx_Snd 138 451 (js_al 0 1) := jo_aload_n (i := 0) (w := 0) rfl jd_138_451
theorem jk_138_452 : jx_Snd 138 452 (js_il 3 1) := jo_iload_n (i := 3) (w := 3) rfl jd_138_452
theorem jk_138_453 : jx_Snd 138 453 (js_c 5 1) := jo_iconst (z := 5) jd_138_453 rfl
theorem jk_138_454 : jx_Snd 138 454 (js_iadd) := jo_iadd jd_138_454
theorem jk_138_455 : jx_Snd 138 455 (js_ald) := jo_ald jd_138_455
theorem jk_138_456 : jx_Snd 138 456 (js_v5 0 9) := jo_v5 rfl jok_9 (Or.inl jw_326) jw_327 jw_328 rfl jd_138_456
theorem jk_138_459 : jx_Snd 138 459 (js_al 2 1) := jo_aload_n (i := 2) (w := 2) rfl jd_138_459
theorem jk_138_460 : jx_Snd 138 460 (js_al 0 1) := jo_aload_n (i := 0) (w := 0) rfl jd_138_460
theorem jk_138_461 : jx_Snd 138 461 (js_il 3 1) := jo_iload_n (i := 3) (w := 3) rfl jd_138_461
theorem jk_138_462 : jx_Snd 138 462 (js_c 1 1) := jo_iconst (z := 1) jd_138_462 rfl
theorem jk_138_463 : jx_Snd 138 463 (js_iadd) := jo_iadd jd_138_463
theorem jk_138_464 : jx_Snd 138 464 (js_ald) := jo_ald jd_138_464
theorem jk_138_465 : jx_Snd 138 465 (js_al 0 1) := jo_aload_n (i := 0) (w := 0) rfl jd_138_465
theorem jk_138_466 : jx_Snd 138 466 (js_il 3 1) := jo_iload_n (i := 3) (w := 3) rfl jd_138_466
theorem jk_138_467 : jx_Snd 138 467 (js_c 2 1) := jo_iconst (z := 2) jd_138_467 rfl
theorem jk_138_468 : jx_Snd 138 468 (js_iadd) := jo_iadd jd_138_468
theorem jk_138_469 : jx_Snd 138 469 (js_ald) := jo_ald jd_138_469
theorem jk_138_470 : jx_Snd 138 470 (js_al 0 1) := jo_aload_n (i := 0) (w := 0) rfl jd_138_470
theorem jk_138_471 : jx_Snd 138 471 (js_il 3 1) := jo_iload_n (i := 3) (w := 3) rfl jd_138_471
theorem jk_138_472 : jx_Snd 138 472 (js_c 3 1) := jo_iconst (z := 3) jd_138_472 rfl
theorem jk_138_473 : jx_Snd 138 473 (js_iadd) := jo_iadd jd_138_473
theorem jk_138_474 : jx_Snd 138 474 (js_ald) := jo_ald jd_138_474
theorem jk_138_475 : jx_Snd 138 475 (js_al 0 1) := jo_aload_n (i := 0) (w := 0) rfl jd_138_475
theorem jk_138_476 : jx_Snd 138 476 (js_il 3 1) := jo_iload_n (i := 3) (w := 3) rfl jd_138_476
theorem jk_138_477 : jx_Snd 138 477 (js_c 4 1) := jo_iconst (z := 4) jd_138_477 rfl
theorem jk_138_478 : jx_Snd 138 478 (js_iadd) := jo_iadd jd_138_478
theorem jk_138_479 : jx_Snd 138 479 (js_ald) := jo_ald jd_138_479
theorem jk_138_480 : jx_Snd 138 480 (js_al 0 1) := jo_aload_n (i := 0) (w := 0) rfl jd_138_480
theorem jk_138_481 : jx_Snd 138 481 (js_il 3 1) := jo_iload_n (i := 3) (w := 3) rfl jd_138_481
theorem jk_138_482 : jx_Snd 138 482 (js_c 5 1) := jo_iconst (z := 5) jd_138_482 rfl
theorem jk_138_483 : jx_Snd 138 483 (js_iadd) := jo_iadd jd_138_483
theorem jk_138_484 : jx_Snd 138 484 (js_ald) := jo_ald jd_138_484
theorem jk_138_485 : jx_Snd 138 485 (js_v5 8 115) := jo_v5 rfl jok_115 (Or.inl jw_606) jw_607 jw_608 rfl jd_138_485
theorem jk_138_488 : jx_Snd 138 488 (js_ceq 660) := jo_ceq (o := 172) rfl jd_138_488
theorem jk_138_491 : jx_Snd 138 491 (js_c 0 1) := jo_iconst (z := 0) jd_138_491 rfl
theorem jk_138_492 : jx_Snd 138 492 (js_zr) := jo_zr rfl jd_138_492
theorem jk_138_493 : jx_Snd 138 493 (js_al 1 1) := jo_aload_n (i := 1) (w := 1) rfl jd_138_493
theorem jk_138_494 : jx_Snd 138 494 (js_al 0 1) := jo_aload_n (i := 0) (w := 0) rfl jd_138_494
theorem jk_138_495 : jx_Snd 138 495 (js_il 3 1) := jo_iload_n (i := 3) (w := 3) rfl jd_138_495
theorem jk_138_496 : jx_Snd 138 496 (js_c 1 1) := jo_iconst (z := 1) jd_138_496 rfl
theorem jk_138_497 : jx_Snd 138 497 (js_iadd) := jo_iadd jd_138_497
theorem jk_138_498 : jx_Snd 138 498 (js_ald) := jo_ald jd_138_498
theorem jk_138_499 : jx_Snd 138 499 (js_v1 0 10) := jo_v1 rfl jok_10 (Or.inl jw_331) jw_332 jw_333 rfl jd_138_499
theorem jk_138_502 : jx_Snd 138 502 (js_al 2 1) := jo_aload_n (i := 2) (w := 2) rfl jd_138_502
theorem jk_138_503 : jx_Snd 138 503 (js_al 0 1) := jo_aload_n (i := 0) (w := 0) rfl jd_138_503
theorem jk_138_504 : jx_Snd 138 504 (js_il 3 1) := jo_iload_n (i := 3) (w := 3) rfl jd_138_504
theorem jk_138_505 : jx_Snd 138 505 (js_c 1 1) := jo_iconst (z := 1) jd_138_505 rfl
theorem jk_138_506 : jx_Snd 138 506 (js_iadd) := jo_iadd jd_138_506
theorem jk_138_507 : jx_Snd 138 507 (js_ald) := jo_ald jd_138_507
theorem jk_138_508 : jx_Snd 138 508 (js_v1 8 116) := jo_v1 rfl jok_116 (Or.inl jw_610) jw_611 jw_612 rfl jd_138_508
theorem jk_138_511 : jx_Snd 138 511 (js_ceq 660) := jo_ceq (o := 149) rfl jd_138_511
theorem jk_138_514 : jx_Snd 138 514 (js_c 0 1) := jo_iconst (z := 0) jd_138_514 rfl
theorem jk_138_515 : jx_Snd 138 515 (js_zr) := jo_zr rfl jd_138_515
theorem jk_138_516 : jx_Snd 138 516 (js_al 1 1) := jo_aload_n (i := 1) (w := 1) rfl jd_138_516
theorem jk_138_517 : jx_Snd 138 517 (js_v0 0 11) := jo_v0 rfl jok_11 (Or.inl jw_335) jw_336 jw_337 rfl jd_138_517
theorem jk_138_520 : jx_Snd 138 520 (js_al 2 1) := jo_aload_n (i := 2) (w := 2) rfl jd_138_520
theorem jk_138_521 : jx_Snd 138 521 (js_v0 8 129) := jo_v0 rfl jok_129 (Or.inl jw_614) jw_615 jw_616 rfl jd_138_521
theorem jk_138_524 : jx_Snd 138 524 (js_ceq 660) := jo_ceq (o := 136) rfl jd_138_524
theorem jk_138_527 : jx_Snd 138 527 (js_c 0 1) := jo_iconst (z := 0) jd_138_527 rfl
theorem jk_138_528 : jx_Snd 138 528 (js_zr) := jo_zr rfl jd_138_528
theorem jk_138_529 : jx_Snd 138 529 (js_al 1 1) := jo_aload_n (i := 1) (w := 1) rfl jd_138_529
theorem jk_138_530 : jx_Snd 138 530 (js_v0 0 12) := jo_v0 rfl jok_12 (Or.inl jw_415) jw_416 jw_417 rfl jd_138_530
theorem jk_138_533 : jx_Snd 138 533 (js_al 2 1) := jo_aload_n (i := 2) (w := 2) rfl jd_138_533
theorem jk_138_534 : jx_Snd 138 534 (js_v0 8 130) := jo_v0 rfl jok_130 (Or.inl jw_656) jw_657 jw_658 rfl jd_138_534
theorem jk_138_537 : jx_Snd 138 537 (js_ceq 660) := jo_ceq (o := 123) rfl jd_138_537
theorem jk_138_540 : jx_Snd 138 540 (js_c 0 1) := jo_iconst (z := 0) jd_138_540 rfl
theorem jk_138_541 : jx_Snd 138 541 (js_zr) := jo_zr rfl jd_138_541
theorem jk_138_542 : jx_Snd 138 542 (js_al 1 1) := jo_aload_n (i := 1) (w := 1) rfl jd_138_542
theorem jk_138_543 : jx_Snd 138 543 (js_al 0 1) := jo_aload_n (i := 0) (w := 0) rfl jd_138_543
theorem jk_138_544 : jx_Snd 138 544 (js_il 3 1) := jo_iload_n (i := 3) (w := 3) rfl jd_138_544
theorem jk_138_545 : jx_Snd 138 545 (js_c 1 1) := jo_iconst (z := 1) jd_138_545 rfl
theorem jk_138_546 : jx_Snd 138 546 (js_iadd) := jo_iadd jd_138_546
theorem jk_138_547 : jx_Snd 138 547 (js_ald) := jo_ald jd_138_547
theorem jk_138_548 : jx_Snd 138 548 (js_v1 0 13) := jo_v1 rfl jok_13 (Or.inl jw_423) jw_424 jw_425 rfl jd_138_548
theorem jk_138_551 : jx_Snd 138 551 (js_al 2 1) := jo_aload_n (i := 2) (w := 2) rfl jd_138_551
theorem jk_138_552 : jx_Snd 138 552 (js_al 0 1) := jo_aload_n (i := 0) (w := 0) rfl jd_138_552
theorem jk_138_553 : jx_Snd 138 553 (js_il 3 1) := jo_iload_n (i := 3) (w := 3) rfl jd_138_553
theorem jk_138_554 : jx_Snd 138 554 (js_c 1 1) := jo_iconst (z := 1) jd_138_554 rfl
theorem jk_138_555 : jx_Snd 138 555 (js_iadd) := jo_iadd jd_138_555
theorem jk_138_556 : jx_Snd 138 556 (js_ald) := jo_ald jd_138_556
theorem jk_138_557 : jx_Snd 138 557 (js_v1 8 131) := jo_v1 rfl jok_131 (Or.inl jw_660) jw_661 jw_662 rfl jd_138_557
theorem jk_138_560 : jx_Snd 138 560 (js_ceq 660) := jo_ceq (o := 100) rfl jd_138_560
theorem jk_138_563 : jx_Snd 138 563 (js_c 0 1) := jo_iconst (z := 0) jd_138_563 rfl
theorem jk_138_564 : jx_Snd 138 564 (js_zr) := jo_zr rfl jd_138_564
theorem jk_138_565 : jx_Snd 138 565 (js_al 1 1) := jo_aload_n (i := 1) (w := 1) rfl jd_138_565
theorem jk_138_566 : jx_Snd 138 566 (js_v0 0 14) := jo_v0 rfl jok_14 (Or.inl jw_431) jw_432 jw_433 rfl jd_138_566
theorem jk_138_569 : jx_Snd 138 569 (js_al 2 1) := jo_aload_n (i := 2) (w := 2) rfl jd_138_569
theorem jk_138_570 : jx_Snd 138 570 (js_v0 8 132) := jo_v0 rfl jok_132 (Or.inl jw_664) jw_665 jw_666 rfl jd_138_570
theorem jk_138_573 : jx_Snd 138 573 (js_ceq 660) := jo_ceq (o := 87) rfl jd_138_573
theorem jk_138_576 : jx_Snd 138 576 (js_c 0 1) := jo_iconst (z := 0) jd_138_576 rfl
theorem jk_138_577 : jx_Snd 138 577 (js_zr) := jo_zr rfl jd_138_577
theorem jk_138_578 : jx_Snd 138 578 (js_al 1 1) := jo_aload_n (i := 1) (w := 1) rfl jd_138_578
theorem jk_138_579 : jx_Snd 138 579 (js_al 0 1) := jo_aload_n (i := 0) (w := 0) rfl jd_138_579
theorem jk_138_580 : jx_Snd 138 580 (js_il 3 1) := jo_iload_n (i := 3) (w := 3) rfl jd_138_580
theorem jk_138_581 : jx_Snd 138 581 (js_c 1 1) := jo_iconst (z := 1) jd_138_581 rfl
theorem jk_138_582 : jx_Snd 138 582 (js_iadd) := jo_iadd jd_138_582
theorem jk_138_583 : jx_Snd 138 583 (js_ald) := jo_ald jd_138_583
theorem jk_138_584 : jx_Snd 138 584 (js_al 0 1) := jo_aload_n (i := 0) (w := 0) rfl jd_138_584
theorem jk_138_585 : jx_Snd 138 585 (js_il 3 1) := jo_iload_n (i := 3) (w := 3) rfl jd_138_585
theorem jk_138_586 : jx_Snd 138 586 (js_c 2 1) := jo_iconst (z := 2) jd_138_586 rfl
theorem jk_138_587 : jx_Snd 138 587 (js_iadd) := jo_iadd jd_138_587
theorem jk_138_588 : jx_Snd 138 588 (js_ald) := jo_ald jd_138_588
theorem jk_138_589 : jx_Snd 138 589 (js_v2 0 15) := jo_v2 rfl jok_15 (Or.inl jw_435) jw_436 jw_437 rfl jd_138_589
theorem jk_138_592 : jx_Snd 138 592 (js_al 2 1) := jo_aload_n (i := 2) (w := 2) rfl jd_138_592
theorem jk_138_593 : jx_Snd 138 593 (js_al 0 1) := jo_aload_n (i := 0) (w := 0) rfl jd_138_593
theorem jk_138_594 : jx_Snd 138 594 (js_il 3 1) := jo_iload_n (i := 3) (w := 3) rfl jd_138_594
theorem jk_138_595 : jx_Snd 138 595 (js_c 1 1) := jo_iconst (z := 1) jd_138_595 rfl
theorem jk_138_596 : jx_Snd 138 596 (js_iadd) := jo_iadd jd_138_596
theorem jk_138_597 : jx_Snd 138 597 (js_ald) := jo_ald jd_138_597
theorem jk_138_598 : jx_Snd 138 598 (js_al 0 1) := jo_aload_n (i := 0) (w := 0) rfl jd_138_598
theorem jk_138_599 : jx_Snd 138 599 (js_il 3 1) := jo_iload_n (i := 3) (w := 3) rfl jd_138_599
theorem jk_138_600 : jx_Snd 138 600 (js_c 2 1) := jo_iconst (z := 2) jd_138_600 rfl
theorem jk_138_601 : jx_Snd 138 601 (js_iadd) := jo_iadd jd_138_601
theorem jk_138_602 : jx_Snd 138 602 (js_ald) := jo_ald jd_138_602
theorem jk_138_603 : jx_Snd 138 603 (js_v2 8 133) := jo_v2 rfl jok_133 (Or.inl jw_668) jw_669 jw_670 rfl jd_138_603
theorem jk_138_606 : jx_Snd 138 606 (js_ceq 660) := jo_ceq (o := 54) rfl jd_138_606
theorem jk_138_609 : jx_Snd 138 609 (js_c 0 1) := jo_iconst (z := 0) jd_138_609 rfl
theorem jk_138_610 : jx_Snd 138 610 (js_zr) := jo_zr rfl jd_138_610
theorem jk_138_611 : jx_Snd 138 611 (js_al 1 1) := jo_aload_n (i := 1) (w := 1) rfl jd_138_611
theorem jk_138_612 : jx_Snd 138 612 (js_al 0 1) := jo_aload_n (i := 0) (w := 0) rfl jd_138_612
theorem jk_138_613 : jx_Snd 138 613 (js_il 3 1) := jo_iload_n (i := 3) (w := 3) rfl jd_138_613
theorem jk_138_614 : jx_Snd 138 614 (js_c 1 1) := jo_iconst (z := 1) jd_138_614 rfl
theorem jk_138_615 : jx_Snd 138 615 (js_iadd) := jo_iadd jd_138_615
theorem jk_138_616 : jx_Snd 138 616 (js_ald) := jo_ald jd_138_616
theorem jk_138_617 : jx_Snd 138 617 (js_v1 0 16) := jo_v1 rfl jok_16 (Or.inl jw_440) jw_441 jw_442 rfl jd_138_617
theorem jk_138_620 : jx_Snd 138 620 (js_al 2 1) := jo_aload_n (i := 2) (w := 2) rfl jd_138_620
theorem jk_138_621 : jx_Snd 138 621 (js_al 0 1) := jo_aload_n (i := 0) (w := 0) rfl jd_138_621
theorem jk_138_622 : jx_Snd 138 622 (js_il 3 1) := jo_iload_n (i := 3) (w := 3) rfl jd_138_622
theorem jk_138_623 : jx_Snd 138 623 (js_c 1 1) := jo_iconst (z := 1) jd_138_623 rfl
theorem jk_138_624 : jx_Snd 138 624 (js_iadd) := jo_iadd jd_138_624
theorem jk_138_625 : jx_Snd 138 625 (js_ald) := jo_ald jd_138_625
theorem jk_138_626 : jx_Snd 138 626 (js_v1 8 134) := jo_v1 rfl jok_134 (Or.inl jw_672) jw_673 jw_674 rfl jd_138_626
theorem jk_138_629 : jx_Snd 138 629 (js_ceq 660) := jo_ceq (o := 31) rfl jd_138_629
theorem jk_138_632 : jx_Snd 138 632 (js_c 0 1) := jo_iconst (z := 0) jd_138_632 rfl
theorem jk_138_633 : jx_Snd 138 633 (js_zr) := jo_zr rfl jd_138_633
theorem jk_138_634 : jx_Snd 138 634 (js_al 1 1) := jo_aload_n (i := 1) (w := 1) rfl jd_138_634
theorem jk_138_635 : jx_Snd 138 635 (js_v0 0 17) := jo_v0 rfl jok_17 (Or.inl jw_449) jw_450 jw_451 rfl jd_138_635
theorem jk_138_638 : jx_Snd 138 638 (js_al 2 1) := jo_aload_n (i := 2) (w := 2) rfl jd_138_638
theorem jk_138_639 : jx_Snd 138 639 (js_v0 8 135) := jo_v0 rfl jok_135 (Or.inl jw_676) jw_677 jw_678 rfl jd_138_639
theorem jk_138_642 : jx_Snd 138 642 (js_ceq 660) := jo_ceq (o := 18) rfl jd_138_642
theorem jk_138_645 : jx_Snd 138 645 (js_c 0 1) := jo_iconst (z := 0) jd_138_645 rfl
theorem jk_138_646 : jx_Snd 138 646 (js_zr) := jo_zr rfl jd_138_646
theorem jk_138_647 : jx_Snd 138 647 (js_al 1 1) := jo_aload_n (i := 1) (w := 1) rfl jd_138_647
theorem jk_138_648 : jx_Snd 138 648 (js_v0 0 18) := jo_v0 rfl jok_18 (Or.inl jw_453) jw_454 jw_455 rfl jd_138_648
theorem jk_138_651 : jx_Snd 138 651 (js_al 2 1) := jo_aload_n (i := 2) (w := 2) rfl jd_138_651
theorem jk_138_652 : jx_Snd 138 652 (js_v0 8 136) := jo_v0 rfl jok_136 (Or.inl jw_680) jw_681 jw_682 rfl jd_138_652
theorem jk_138_655 : jx_Snd 138 655 (js_ceq 660) := jo_ceq (o := 5) rfl jd_138_655
theorem jk_138_658 : jx_Snd 138 658 (js_c 0 1) := jo_iconst (z := 0) jd_138_658 rfl
theorem jk_138_659 : jx_Snd 138 659 (js_zr) := jo_zr rfl jd_138_659
theorem jk_138_660 : jx_Snd 138 660 (js_inc 3 6) := jo_iinc (w := 6) rfl (Nat.le_of_ble_eq_true rfl) jd_138_660
theorem jk_138_663 : jx_Snd 138 663 (js_go 28) := jo_goto (o := (-635)) rfl jd_138_663
theorem jk_138_666 : jx_Snd 138 666 (js_c 1 1) := jo_iconst (z := 1) jd_138_666 rfl
theorem jk_138_667 : jx_Snd 138 667 (js_zr) := jo_zr rfl jd_138_667
theorem jk_138 : jx_So 138 jt_138 := fun pc => jo_le (jo_le (jo_le (jo_le (jo_le (jo_le (jo_le (jo_le (jo_le (jo_at (jk_138_3)) (jo_at (jk_138_4))) (jo_le (jo_at (jk_138_5)) (jo_at (jk_138_6)))) (jo_le (jo_le (jo_at (jk_138_12)) (jo_at (jk_138_16))) (jo_at (jk_138_17)))) (jo_le (jo_le (jo_le (jo_at (jk_138_18)) (jo_at (jk_138_19))) (jo_le (jo_at (jk_138_25)) (jo_at (jk_138_26)))) (jo_le (jo_le (jo_at (jk_138_27)) (jo_at (jk_138_28))) (jo_at (jk_138_29))))) (jo_le (jo_le (jo_le (jo_le (jo_at (jk_138_30)) (jo_at (jk_138_31))) (jo_le (jo_at (jk_138_33)) (jo_at (jk_138_34)))) (jo_le (jo_le (jo_at (jk_138_37)) (jo_at (jk_138_38))) (jo_at (jk_138_39)))) (jo_le (jo_le (jo_le (jo_at (jk_138_40)) (jo_at (jk_138_42))) (jo_le (jo_at (jk_138_43)) (jo_at (jk_138_128)))) (jo_le (jo_le (jo_at (jk_138_129)) (jo_at (jk_138_130))) (jo_at (jk_138_131)))))) (jo_le (jo_le (jo_le (jo_le (jo_le (jo_at (jk_138_132)) (jo_at (jk_138_133))) (jo_le (jo_at (jk_138_134)) (jo_at (jk_138_135)))) (jo_le (jo_le (jo_at (jk_138_137)) (jo_at (jk_138_138))) (jo_at (jk_138_139)))) (jo_le (jo_le (jo_le (jo_at (jk_138_140)) (jo_at (jk_138_141))) (jo_le (jo_at (jk_138_142)) (jo_at (jk_138_143)))) (jo_le (jo_le (jo_at (jk_138_144)) (jo_at (jk_138_147))) (jo_at (jk_138_148))))) (jo_le (jo_le (jo_le (jo_le (jo_at (jk_138_149)) (jo_at (jk_138_150))) (jo_le (jo_at (jk_138_151)) (jo_at (jk_138_152)))) (jo_le (jo_le (jo_at (jk_138_153)) (jo_at (jk_138_154))) (jo_at (jk_138_157)))) (jo_le (jo_le (jo_le (jo_at (jk_138_158)) (jo_at (jk_138_159))) (jo_le (jo_at (jk_138_160)) (jo_at (jk_138_161)))) (jo_le (jo_le (jo_at (jk_138_162)) (jo_at (jk_138_163))) (jo_at (jk_138_164))))))) (jo_le (jo_le (jo_le (jo_le (jo_le (jo_le (jo_at (jk_138_166)) (jo_at (jk_138_167))) (jo_le (jo_at (jk_138_168)) (jo_at (jk_138_169)))) (jo_le (jo_le (jo_at (jk_138_170)) (jo_at (jk_138_171))) (jo_at (jk_138_172)))) (jo_le (jo_le (jo_le (jo_at (jk_138_173)) (jo_at (jk_138_176))) (jo_le (jo_at (jk_138_177)) (jo_at (jk_138_178)))) (jo_le (jo_le (jo_at (jk_138_179)) (jo_at (jk_138_180))) (jo_at (jk_138_181))))) (jo_le (jo_le (jo_le (jo_le (jo_at (jk_138_182)) (jo_at (jk_138_183))) (jo_le (jo_at (jk_138_186)) (jo_at (jk_138_189)))) (jo_le (jo_le (jo_at (jk_138_190)) (jo_at (jk_138_191))) (jo_at (jk_138_192)))) (jo_le (jo_le (jo_le (jo_at (jk_138_195)) (jo_at (jk_138_196))) (jo_le (jo_at (jk_138_199)) (jo_at (jk_138_202)))) (jo_le (jo_le (jo_at (jk_138_203)) (jo_at (jk_138_204))) (jo_at (jk_138_205)))))) (jo_le (jo_le (jo_le (jo_le (jo_le (jo_at (jk_138_206)) (jo_at (jk_138_207))) (jo_le (jo_at (jk_138_208)) (jo_at (jk_138_209)))) (jo_le (jo_le (jo_at (jk_138_210)) (jo_at (jk_138_211))) (jo_at (jk_138_212)))) (jo_le (jo_le (jo_le (jo_at (jk_138_213)) (jo_at (jk_138_214))) (jo_le (jo_at (jk_138_215)) (jo_at (jk_138_216)))) (jo_le (jo_le (jo_at (jk_138_217)) (jo_at (jk_138_218))) (jo_at (jk_138_219))))) (jo_le (jo_le (jo_le (jo_le (jo_at (jk_138_220)) (jo_at (jk_138_221))) (jo_le (jo_at (jk_138_222)) (jo_at (jk_138_223)))) (jo_le (jo_le (jo_at (jk_138_224)) (jo_at (jk_138_225))) (jo_at (jk_138_228)))) (jo_le (jo_le (jo_le (jo_at (jk_138_229)) (jo_at (jk_138_230))) (jo_le (jo_at (jk_138_231)) (jo_at (jk_138_232)))) (jo_le (jo_le (jo_at (jk_138_233)) (jo_at (jk_138_234))) (jo_at (jk_138_235)))))))) (jo_le (jo_le (jo_le (jo_le (jo_le (jo_le (jo_le (jo_at (jk_138_236)) (jo_at (jk_138_237))) (jo_le (jo_at (jk_138_238)) (jo_at (jk_138_239)))) (jo_le (jo_le (jo_at (jk_138_240)) (jo_at (jk_138_241))) (jo_at (jk_138_242)))) (jo_le (jo_le (jo_le (jo_at (jk_138_243)) (jo_at (jk_138_244))) (jo_le (jo_at (jk_138_245)) (jo_at (jk_138_246)))) (jo_le (jo_le (jo_at (jk_138_247)) (jo_at (jk_138_248))) (jo_at (jk_138_249))))) (jo_le (jo_le (jo_le (jo_le (jo_at (jk_138_252)) (jo_at (jk_138_255))) (jo_le (jo_at (jk_138_256)) (jo_at (jk_138_257)))) (jo_le (jo_le (jo_at (jk_138_258)) (jo_at (jk_138_259))) (jo_at (jk_138_260)))) (jo_le (jo_le (jo_le (jo_at (jk_138_261)) (jo_at (jk_138_262))) (jo_le (jo_at (jk_138_263)) (jo_at (jk_138_266)))) (jo_le (jo_le (jo_at (jk_138_267)) (jo_at (jk_138_268))) (jo_at (jk_138_269)))))) (jo_le (jo_le (jo_le (jo_le (jo_le (jo_at (jk_138_270)) (jo_at (jk_138_271))) (jo_le (jo_at (jk_138_272)) (jo_at (jk_138_275)))) (jo_le (jo_le (jo_at (jk_138_278)) (jo_at (jk_138_279))) (jo_at (jk_138_280)))) (jo_le (jo_le (jo_le (jo_at (jk_138_281)) (jo_at (jk_138_284))) (jo_le (jo_at (jk_138_285)) (jo_at (jk_138_288)))) (jo_le (jo_le (jo_at (jk_138_291)) (jo_at (jk_138_292))) (jo_at (jk_138_293))))) (jo_le (jo_le (jo_le (jo_le (jo_at (jk_138_294)) (jo_at (jk_138_295))) (jo_le (jo_at (jk_138_296)) (jo_at (jk_138_297)))) (jo_le (jo_le (jo_at (jk_138_298)) (jo_at (jk_138_299))) (jo_at (jk_138_300)))) (jo_le (jo_le (jo_le (jo_at (jk_138_301)) (jo_at (jk_138_302))) (jo_le (jo_at (jk_138_305)) (jo_at (jk_138_306)))) (jo_le (jo_le (jo_at (jk_138_307)) (jo_at (jk_138_308))) (jo_at (jk_138_309))))))) (jo_le (jo_le (jo_le (jo_le (jo_le (jo_le (jo_at (jk_138_310)) (jo_at (jk_138_311))) (jo_le (jo_at (jk_138_312)) (jo_at (jk_138_313)))) (jo_le (jo_le (jo_at (jk_138_314)) (jo_at (jk_138_315))) (jo_at (jk_138_316)))) (jo_le (jo_le (jo_le (jo_at (jk_138_319)) (jo_at (jk_138_322))) (jo_le (jo_at (jk_138_323)) (jo_at (jk_138_324)))) (jo_le (jo_le (jo_at (jk_138_325)) (jo_at (jk_138_326))) (jo_at (jk_138_327))))) (jo_le (jo_le (jo_le (jo_le (jo_at (jk_138_328)) (jo_at (jk_138_329))) (jo_le (jo_at (jk_138_330)) (jo_at (jk_138_331)))) (jo_le (jo_le (jo_at (jk_138_332)) (jo_at (jk_138_333))) (jo_at (jk_138_334)))) (jo_le (jo_le (jo_le (jo_at (jk_138_335)) (jo_at (jk_138_336))) (jo_le (jo_at (jk_138_337)) (jo_at (jk_138_338)))) (jo_le (jo_le (jo_at (jk_138_339)) (jo_at (jk_138_340))) (jo_at (jk_138_341)))))) (jo_le (jo_le (jo_le (jo_le (jo_le (jo_at (jk_138_342)) (jo_at (jk_138_343))) (jo_le (jo_at (jk_138_344)) (jo_at (jk_138_345)))) (jo_le (jo_le (jo_at (jk_138_346)) (jo_at (jk_138_347))) (jo_at (jk_138_348)))) (jo_le (jo_le (jo_le (jo_at (jk_138_349)) (jo_at (jk_138_350))) (jo_le (jo_at (jk_138_353)) (jo_at (jk_138_354)))) (jo_le (jo_le (jo_at (jk_138_355)) (jo_at (jk_138_356))) (jo_at (jk_138_357))))) (jo_le (jo_le (jo_le (jo_le (jo_at (jk_138_358)) (jo_at (jk_138_359))) (jo_le (jo_at (jk_138_360)) (jo_at (jk_138_361)))) (jo_le (jo_le (jo_at (jk_138_362)) (jo_at (jk_138_363))) (jo_at (jk_138_364)))) (jo_le (jo_le (jo_le (jo_at (jk_138_365)) (jo_at (jk_138_366))) (jo_at (jk_138_367))) (jo_le (jo_le (jo_at (jk_138_368)) (jo_at (jk_138_369))) (jo_at (jk_138_370))))))))) (jo_le (jo_le (jo_le (jo_le (jo_le (jo_le (jo_le (jo_le (jo_at (jk_138_371)) (jo_at (jk_138_372))) (jo_le (jo_at (jk_138_373)) (jo_at (jk_138_374)))) (jo_le (jo_le (jo_at (jk_138_375)) (jo_at (jk_138_376))) (jo_at (jk_138_377)))) (jo_le (jo_le (jo_le (jo_at (jk_138_378)) (jo_at (jk_138_379))) (jo_le (jo_at (jk_138_382)) (jo_at (jk_138_385)))) (jo_le (jo_le (jo_at (jk_138_386)) (jo_at (jk_138_387))) (jo_at (jk_138_388))))) (jo_le (jo_le (jo_le (jo_le (jo_at (jk_138_389)) (jo_at (jk_138_390))) (jo_le (jo_at (jk_138_391)) (jo_at (jk_138_392)))) (jo_le (jo_le (jo_at (jk_138_393)) (jo_at (jk_138_394))) (jo_at (jk_138_395)))) (jo_le (jo_le (jo_le (jo_at (jk_138_396)) (jo_at (jk_138_397))) (jo_le (jo_at (jk_138_398)) (jo_at (jk_138_399)))) (jo_le (jo_le (jo_at (jk_138_400)) (jo_at (jk_138_401))) (jo_at (jk_138_402)))))) (jo_le (jo_le (jo_le (jo_le (jo_le (jo_at (jk_138_403)) (jo_at (jk_138_406))) (jo_le (jo_at (jk_138_407)) (jo_at (jk_138_408)))) (jo_le (jo_le (jo_at (jk_138_409)) (jo_at (jk_138_410))) (jo_at (jk_138_411)))) (jo_le (jo_le (jo_le (jo_at (jk_138_412)) (jo_at (jk_138_413))) (jo_le (jo_at (jk_138_414)) (jo_at (jk_138_415)))) (jo_le (jo_le (jo_at (jk_138_416)) (jo_at (jk_138_417))) (jo_at (jk_138_418))))) (jo_le (jo_le (jo_le (jo_le (jo_at (jk_138_419)) (jo_at (jk_138_420))) (jo_le (jo_at (jk_138_421)) (jo_at (jk_138_422)))) (jo_le (jo_le (jo_at (jk_138_425)) (jo_at (jk_138_428))) (jo_at (jk_138_429)))) (jo_le (jo_le (jo_le (jo_at (jk_138_430)) (jo_at (jk_138_431))) (jo_le (jo_at (jk_138_432)) (jo_at (jk_138_433)))) (jo_le (jo_le (jo_at (jk_138_434)) (jo_at (jk_138_435))) (jo_at (jk_138_436))))))) (jo_le (jo_le (jo_le (jo_le (jo_le (jo_le (jo_at (jk_138_437)) (jo_at (jk_138_438))) (jo_le (jo_at (jk_138_439)) (jo_at (jk_138_440)))) (jo_le (jo_le (jo_at (jk_138_441)) (jo_at (jk_138_442))) (jo_at (jk_138_443)))) (jo_le (jo_le (jo_le (jo_at (jk_138_444)) (jo_at (jk_138_445))) (jo_le (jo_at (jk_138_446)) (jo_at (jk_138_447)))) (jo_le (jo_le (jo_at (jk_138_448)) (jo_at (jk_138_449))) (jo_at (jk_138_450))))) (jo_le (jo_le (jo_le (jo_le (jo_at (jk_138_451)) (jo_at (jk_138_452))) (jo_le (jo_at (jk_138_453)) (jo_at (jk_138_454)))) (jo_le (jo_le (jo_at (jk_138_455)) (jo_at (jk_138_456))) (jo_at (jk_138_459)))) (jo_le (jo_le (jo_le (jo_at (jk_138_460)) (jo_at (jk_138_461))) (jo_le (jo_at (jk_138_462)) (jo_at (jk_138_463)))) (jo_le (jo_le (jo_at (jk_138_464)) (jo_at (jk_138_465))) (jo_at (jk_138_466)))))) (jo_le (jo_le (jo_le (jo_le (jo_le (jo_at (jk_138_467)) (jo_at (jk_138_468))) (jo_le (jo_at (jk_138_469)) (jo_at (jk_138_470)))) (jo_le (jo_le (jo_at (jk_138_471)) (jo_at (jk_138_472))) (jo_at (jk_138_473)))) (jo_le (jo_le (jo_le (jo_at (jk_138_474)) (jo_at (jk_138_475))) (jo_le (jo_at (jk_138_476)) (jo_at (jk_138_477)))) (jo_le (jo_le (jo_at (jk_138_478)) (jo_at (jk_138_479))) (jo_at (jk_138_480))))) (jo_le (jo_le (jo_le (jo_le (jo_at (jk_138_481)) (jo_at (jk_138_482))) (jo_le (jo_at (jk_138_483)) (jo_at (jk_138_484)))) (jo_le (jo_le (jo_at (jk_138_485)) (jo_at (jk_138_488))) (jo_at (jk_138_491)))) (jo_le (jo_le (jo_le (jo_at (jk_138_492)) (jo_at (jk_138_493))) (jo_le (jo_at (jk_138_494)) (jo_at (jk_138_495)))) (jo_le (jo_le (jo_at (jk_138_496)) (jo_at (jk_138_497))) (jo_at (jk_138_498)))))))) (jo_le (jo_le (jo_le (jo_le (jo_le (jo_le (jo_le (jo_at (jk_138_499)) (jo_at (jk_138_502))) (jo_le (jo_at (jk_138_503)) (jo_at (jk_138_504)))) (jo_le (jo_le (jo_at (jk_138_505)) (jo_at (jk_138_506))) (jo_at (jk_138_507)))) (jo_le (jo_le (jo_le (jo_at (jk_138_508)) (jo_at (jk_138_511))) (jo_le (jo_at (jk_138_514)) (jo_at (jk_138_515)))) (jo_le (jo_le (jo_at (jk_138_516)) (jo_at (jk_138_517))) (jo_at (jk_138_520))))) (jo_le (jo_le (jo_le (jo_le (jo_at (jk_138_521)) (jo_at (jk_138_524))) (jo_le (jo_at (jk_138_527)) (jo_at (jk_138_528)))) (jo_le (jo_le (jo_at (jk_138_529)) (jo_at (jk_138_530))) (jo_at (jk_138_533)))) (jo_le (jo_le (jo_le (jo_at (jk_138_534)) (jo_at (jk_138_537))) (jo_le (jo_at (jk_138_540)) (jo_at (jk_138_541)))) (jo_le (jo_le (jo_at (jk_138_542)) (jo_at (jk_138_543))) (jo_at (jk_138_544)))))) (jo_le (jo_le (jo_le (jo_le (jo_le (jo_at (jk_138_545)) (jo_at (jk_138_546))) (jo_le (jo_at (jk_138_547)) (jo_at (jk_138_548)))) (jo_le (jo_le (jo_at (jk_138_551)) (jo_at (jk_138_552))) (jo_at (jk_138_553)))) (jo_le (jo_le (jo_le (jo_at (jk_138_554)) (jo_at (jk_138_555))) (jo_le (jo_at (jk_138_556)) (jo_at (jk_138_557)))) (jo_le (jo_le (jo_at (jk_138_560)) (jo_at (jk_138_563))) (jo_at (jk_138_564))))) (jo_le (jo_le (jo_le (jo_le (jo_at (jk_138_565)) (jo_at (jk_138_566))) (jo_le (jo_at (jk_138_569)) (jo_at (jk_138_570)))) (jo_le (jo_le (jo_at (jk_138_573)) (jo_at (jk_138_576))) (jo_at (jk_138_577)))) (jo_le (jo_le (jo_le (jo_at (jk_138_578)) (jo_at (jk_138_579))) (jo_le (jo_at (jk_138_580)) (jo_at (jk_138_581)))) (jo_le (jo_le (jo_at (jk_138_582)) (jo_at (jk_138_583))) (jo_at (jk_138_584))))))) (jo_le (jo_le (jo_le (jo_le (jo_le (jo_le (jo_at (jk_138_585)) (jo_at (jk_138_586))) (jo_le (jo_at (jk_138_587)) (jo_at (jk_138_588)))) (jo_le (jo_le (jo_at (jk_138_589)) (jo_at (jk_138_592))) (jo_at (jk_138_593)))) (jo_le (jo_le (jo_le (jo_at (jk_138_594)) (jo_at (jk_138_595))) (jo_le (jo_at (jk_138_596)) (jo_at (jk_138_597)))) (jo_le (jo_le (jo_at (jk_138_598)) (jo_at (jk_138_599))) (jo_at (jk_138_600))))) (jo_le (jo_le (jo_le (jo_le (jo_at (jk_138_601)) (jo_at (jk_138_602))) (jo_le (jo_at (jk_138_603)) (jo_at (jk_138_606)))) (jo_le (jo_le (jo_at (jk_138_609)) (jo_at (jk_138_610))) (jo_at (jk_138_611)))) (jo_le (jo_le (jo_le (jo_at (jk_138_612)) (jo_at (jk_138_613))) (jo_le (jo_at (jk_138_614)) (jo_at (jk_138_615)))) (jo_le (jo_le (jo_at (jk_138_616)) (jo_at (jk_138_617))) (jo_at (jk_138_620)))))) (jo_le (jo_le (jo_le (jo_le (jo_le (jo_at (jk_138_621)) (jo_at (jk_138_622))) (jo_le (jo_at (jk_138_623)) (jo_at (jk_138_624)))) (jo_le (jo_le (jo_at (jk_138_625)) (jo_at (jk_138_626))) (jo_at (jk_138_629)))) (jo_le (jo_le (jo_le (jo_at (jk_138_632)) (jo_at (jk_138_633))) (jo_le (jo_at (jk_138_634)) (jo_at (jk_138_635)))) (jo_le (jo_le (jo_at (jk_138_638)) (jo_at (jk_138_639))) (jo_at (jk_138_642))))) (jo_le (jo_le (jo_le (jo_le (jo_at (jk_138_645)) (jo_at (jk_138_646))) (jo_le (jo_at (jk_138_647)) (jo_at (jk_138_648)))) (jo_le (jo_le (jo_at (jk_138_651)) (jo_at (jk_138_652))) (jo_at (jk_138_655)))) (jo_le (jo_le (jo_le (jo_at (jk_138_658)) (jo_at (jk_138_659))) (jo_at (jk_138_660))) (jo_le (jo_le (jo_at (jk_138_663)) (jo_at (jk_138_666))) (jo_at (jk_138_667)))))))))
def jnt_138 (pc : Nat) : jn_Sp := bif Nat.ble pc 16 then (bif Nat.ble pc 6 then (bif Nat.ble pc 4 then (bif Nat.ble pc 3 then (bif Nat.ble pc 0 then (bif Nat.beq pc 0 then jn_new 0 6 [some none, some none, some none, some none, some none, some none] else jn_none) else (bif Nat.beq pc 3 then jn_of (js_dup) else jn_none)) else (bif Nat.beq pc 4 then jn_of (js_al 0 1) else jn_none)) else (bif Nat.ble pc 5 then (bif Nat.beq pc 5 then jn_of (js_c 0 1) else jn_none) else (bif Nat.beq pc 6 then jn_of (js_s2 137) else jn_none))) else (bif Nat.ble pc 12 then (bif Nat.ble pc 9 then (bif Nat.beq pc 9 then jn_i1 0 33 3740 else jn_none) else (bif Nat.beq pc 12 then jn_of (js_as 1 1) else jn_none)) else (bif Nat.ble pc 13 then (bif Nat.beq pc 13 then jn_new 8 50 [none, some none, some none, none, some none, none, some none, some none, some none, some none, some none, none, some none, some none, none, some none, some none, some none, none, none, none, none, none, none, none, none, some none, some none, some none, some none, some none, none, some none, none, some none, some none, none, some none, some none, some none, some none, some none, none, none, none, none, none, none, some none, some none] else jn_none) else (bif Nat.beq pc 16 then jn_of (js_dup) else jn_none)))) else (bif Nat.ble pc 25 then (bif Nat.ble pc 19 then (bif Nat.ble pc 18 then (bif Nat.ble pc 17 then (bif Nat.beq pc 17 then jn_of (js_al 0 1) else jn_none) else (bif Nat.beq pc 18 then jn_of (js_c 0 1) else jn_none)) else (bif Nat.beq pc 19 then jn_of (js_s2 137) else jn_none)) else (bif Nat.ble pc 22 then (bif Nat.beq pc 22 then jn_i1 88 28 2942 else jn_none) else (bif Nat.beq pc 25 then jn_of (js_as 2 1) else jn_none))) else (bif Nat.ble pc 27 then (bif Nat.ble pc 26 then (bif Nat.beq pc 26 then jn_of (js_c 1 1) else jn_none) else (bif Nat.beq pc 27 then jn_of (js_is 3 1) else jn_none)) else (bif Nat.ble pc 28 then (bif Nat.beq pc 28 then jn_of (js_il 3 1) else jn_none) else (bif Nat.beq pc 29 then jn_of (js_al 0 1) else jn_none))))
theorem jnk_138_0 : jn_Snd 138 0 (jn_new 0 6 [some none, some none, some none, some none, some none, some none]) := jno_new (tt := ju_0) rfl rfl jhl_0 jty_0 jw_11 jw_12 jw_1 rfl (by decide +kernel) jd_138_0
theorem jnk_138_3 : jn_Snd 138 3 (jn_of (js_dup)) := jn_lift (jo_dup jd_138_3)
theorem jnk_138_4 : jn_Snd 138 4 (jn_of (js_al 0 1)) := jn_lift (jo_aload_n (i := 0) (w := 0) rfl jd_138_4)
theorem jnk_138_5 : jn_Snd 138 5 (jn_of (js_c 0 1)) := jn_lift (jo_iconst (z := 0) jd_138_5 rfl)
theorem jnk_138_6 : jn_Snd 138 6 (jn_of (js_s2 137)) := jn_lift (jo_s2 rfl jok_137 (Or.inl jw_457) jw_458 jd_138_6)
theorem jnk_138_9 : jn_Snd 138 9 (jn_i1 0 33 3740) := jno_i1 rfl jok_0 (Or.inl jw_13) jw_14 rfl rfl jd_138_9
theorem jnk_138_12 : jn_Snd 138 12 (jn_of (js_as 1 1)) := jn_lift (jo_astore_n (i := 1) (w := 1) rfl (Nat.le_of_ble_eq_true rfl) jd_138_12)
theorem jnk_138_13 : jn_Snd 138 13 (jn_new 8 50 [none, some none, some none, none, some none, none, some none, some none, some none, some none, some none, none, some none, some none, none, some none, some none, some none, none, none, none, none, none, none, none, none, some none, some none, some none, some none, some none, none, some none, none, some none, some none, none, some none, some none, some none, some none, some none, none, none, none, none, none, none, some none, some none]) := jno_new (tt := ju_8) rfl rfl jhl_8 jty_8 jw_460 jw_461 jw_10 rfl (by decide +kernel) jd_138_13
theorem jnk_138_16 : jn_Snd 138 16 (jn_of (js_dup)) := jn_lift (jo_dup jd_138_16)
theorem jnk_138_17 : jn_Snd 138 17 (jn_of (js_al 0 1)) := jn_lift (jo_aload_n (i := 0) (w := 0) rfl jd_138_17)
theorem jnk_138_18 : jn_Snd 138 18 (jn_of (js_c 0 1)) := jn_lift (jo_iconst (z := 0) jd_138_18 rfl)
theorem jnk_138_19 : jn_Snd 138 19 (jn_of (js_s2 137)) := jn_lift (jo_s2 rfl jok_137 (Or.inl jw_457) jw_458 jd_138_19)
theorem jnk_138_22 : jn_Snd 138 22 (jn_i1 88 28 2942) := jno_i1 rfl jok_88 (Or.inl jw_462) jw_463 rfl rfl jd_138_22
theorem jnk_138_25 : jn_Snd 138 25 (jn_of (js_as 2 1)) := jn_lift (jo_astore_n (i := 2) (w := 2) rfl (Nat.le_of_ble_eq_true rfl) jd_138_25)
theorem jnk_138_26 : jn_Snd 138 26 (jn_of (js_c 1 1)) := jn_lift (jo_iconst (z := 1) jd_138_26 rfl)
theorem jnk_138_27 : jn_Snd 138 27 (jn_of (js_is 3 1)) := jn_lift (jo_istore_n (i := 3) (w := 3) rfl (Nat.le_of_ble_eq_true rfl) jd_138_27)
theorem jnk_138_28 : jn_Snd 138 28 (jn_of (js_il 3 1)) := jn_lift (jo_iload_n (i := 3) (w := 3) rfl jd_138_28)
theorem jnk_138_29 : jn_Snd 138 29 (jn_of (js_al 0 1)) := jn_lift (jo_aload_n (i := 0) (w := 0) rfl jd_138_29)
theorem jnk_138 : jn_So 138 jnt_138 := fun pc => jno_le (jno_le (jno_le (jno_le (jno_le (jno_at (jnk_138_0)) (jno_at (jnk_138_3))) (jno_at (jnk_138_4))) (jno_le (jno_at (jnk_138_5)) (jno_at (jnk_138_6)))) (jno_le (jno_le (jno_at (jnk_138_9)) (jno_at (jnk_138_12))) (jno_le (jno_at (jnk_138_13)) (jno_at (jnk_138_16))))) (jno_le (jno_le (jno_le (jno_le (jno_at (jnk_138_17)) (jno_at (jnk_138_18))) (jno_at (jnk_138_19))) (jno_le (jno_at (jnk_138_22)) (jno_at (jnk_138_25)))) (jno_le (jno_le (jno_at (jnk_138_26)) (jno_at (jnk_138_27))) (jno_le (jno_at (jnk_138_28)) (jno_at (jnk_138_29)))))
