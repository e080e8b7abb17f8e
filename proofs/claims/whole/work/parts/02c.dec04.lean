/-! decode rows -/
theorem dX12_init_59 : decode cX12_init 59 = .ok (.bipush 97, 2) := by decide +kernel
theorem dX12_init_61 : decode cX12_init 61 = .ok (.bastore, 1) := by decide +kernel
theorem dX12_init_62 : decode cX12_init 62 = .ok (.dup, 1) := by decide +kernel
theorem dX12_init_63 : decode cX12_init 63 = .ok (.iconst 2, 1) := by decide +kernel
theorem dX12_init_64 : decode cX12_init 64 = .ok (.bipush 110, 2) := by decide +kernel
theorem dX12_init_66 : decode cX12_init 66 = .ok (.bastore, 1) := by decide +kernel
theorem dX12_init_67 : decode cX12_init 67 = .ok (.dup, 1) := by decide +kernel
theorem dX12_init_68 : decode cX12_init 68 = .ok (.iconst 3, 1) := by decide +kernel
theorem dX12_init_69 : decode cX12_init 69 = .ok (.bipush 107, 2) := by decide +kernel
theorem dX12_init_71 : decode cX12_init 71 = .ok (.bastore, 1) := by decide +kernel
theorem dX12_init_72 : decode cX12_init 72 = .ok (.dup, 1) := by decide +kernel
theorem dX12_init_73 : decode cX12_init 73 = .ok (.iconst 4, 1) := by decide +kernel
theorem dX12_init_74 : decode cX12_init 74 = .ok (.bipush 32, 2) := by decide +kernel
theorem dX12_init_76 : decode cX12_init 76 = .ok (.bastore, 1) := by decide +kernel
theorem dX12_init_77 : decode cX12_init 77 = .ok (.dup, 1) := by decide +kernel
theorem dX12_init_78 : decode cX12_init 78 = .ok (.iconst 5, 1) := by decide +kernel
theorem dX12_init_79 : decode cX12_init 79 = .ok (.bipush 98, 2) := by decide +kernel
theorem dX12_init_81 : decode cX12_init 81 = .ok (.bastore, 1) := by decide +kernel
theorem dX12_init_82 : decode cX12_init 82 = .ok (.dup, 1) := by decide +kernel
theorem dX12_init_83 : decode cX12_init 83 = .ok (.bipush 6, 2) := by decide +kernel
theorem dX12_init_85 : decode cX12_init 85 = .ok (.bipush 114, 2) := by decide +kernel
theorem dX12_init_87 : decode cX12_init 87 = .ok (.bastore, 1) := by decide +kernel
theorem dX12_init_88 : decode cX12_init 88 = .ok (.dup, 1) := by decide +kernel
theorem dX12_init_89 : decode cX12_init 89 = .ok (.bipush 7, 2) := by decide +kernel
theorem dX12_init_91 : decode cX12_init 91 = .ok (.bipush 101, 2) := by decide +kernel
theorem dX12_init_93 : decode cX12_init 93 = .ok (.bastore, 1) := by decide +kernel
theorem dX12_init_94 : decode cX12_init 94 = .ok (.dup, 1) := by decide +kernel
theorem dX12_init_95 : decode cX12_init 95 = .ok (.bipush 8, 2) := by decide +kernel
theorem dX12_init_97 : decode cX12_init 97 = .ok (.bipush 97, 2) := by decide +kernel
theorem dX12_init_99 : decode cX12_init 99 = .ok (.bastore, 1) := by decide +kernel
theorem dX12_init_100 : decode cX12_init 100 = .ok (.dup, 1) := by decide +kernel
theorem dX12_init_101 : decode cX12_init 101 = .ok (.bipush 9, 2) := by decide +kernel
theorem dX12_init_103 : decode cX12_init 103 = .ok (.bipush 116, 2) := by decide +kernel
theorem dX12_init_105 : decode cX12_init 105 = .ok (.bastore, 1) := by decide +kernel
theorem dX12_init_106 : decode cX12_init 106 = .ok (.dup, 1) := by decide +kernel
theorem dX12_init_107 : decode cX12_init 107 = .ok (.bipush 10, 2) := by decide +kernel
theorem dX12_init_109 : decode cX12_init 109 = .ok (.bipush 104, 2) := by decide +kernel
theorem dX12_init_111 : decode cX12_init 111 = .ok (.bastore, 1) := by decide +kernel
theorem dX12_init_112 : decode cX12_init 112 = .ok (.dup, 1) := by decide +kernel
theorem dX12_init_113 : decode cX12_init 113 = .ok (.bipush 11, 2) := by decide +kernel
theorem dX12_init_115 : decode cX12_init 115 = .ok (.bipush 32, 2) := by decide +kernel
theorem dX12_init_117 : decode cX12_init 117 = .ok (.bastore, 1) := by decide +kernel
theorem dX12_init_118 : decode cX12_init 118 = .ok (.dup, 1) := by decide +kernel
theorem dX12_init_119 : decode cX12_init 119 = .ok (.bipush 12, 2) := by decide +kernel
theorem dX12_init_121 : decode cX12_init 121 = .ok (.bipush 98, 2) := by decide +kernel
theorem dX12_init_123 : decode cX12_init 123 = .ok (.bastore, 1) := by decide +kernel
theorem dX12_init_124 : decode cX12_init 124 = .ok (.dup, 1) := by decide +kernel
theorem dX12_init_125 : decode cX12_init 125 = .ok (.bipush 13, 2) := by decide +kernel
theorem dX12_init_127 : decode cX12_init 127 = .ok (.bipush 97, 2) := by decide +kernel
theorem dX12_init_129 : decode cX12_init 129 = .ok (.bastore, 1) := by decide +kernel
theorem dX12_init_130 : decode cX12_init 130 = .ok (.dup, 1) := by decide +kernel
theorem dX12_init_131 : decode cX12_init 131 = .ok (.bipush 14, 2) := by decide +kernel
theorem dX12_init_133 : decode cX12_init 133 = .ok (.bipush 114, 2) := by decide +kernel
theorem dX12_init_135 : decode cX12_init 135 = .ok (.bastore, 1) := by decide +kernel
theorem dX12_init_136 : decode cX12_init 136 = .ok (.dup, 1) := by decide +kernel
theorem dX12_init_137 : decode cX12_init 137 = .ok (.bipush 15, 2) := by decide +kernel
theorem dX12_init_139 : decode cX12_init 139 = .ok (.bipush 115, 2) := by decide +kernel
theorem dX12_init_141 : decode cX12_init 141 = .ok (.bastore, 1) := by decide +kernel
theorem dX12_init_142 : decode cX12_init 142 = .ok (.dup, 1) := by decide +kernel
theorem dX12_init_143 : decode cX12_init 143 = .ok (.bipush 16, 2) := by decide +kernel
theorem dX12_init_145 : decode cX12_init 145 = .ok (.bipush 32, 2) := by decide +kernel
theorem dX12_init_147 : decode cX12_init 147 = .ok (.bastore, 1) := by decide +kernel
theorem dX12_init_148 : decode cX12_init 148 = .ok (.dup, 1) := by decide +kernel
theorem dX12_init_149 : decode cX12_init 149 = .ok (.bipush 17, 2) := by decide +kernel
theorem dX12_init_151 : decode cX12_init 151 = .ok (.bipush 105, 2) := by decide +kernel
theorem dX12_init_153 : decode cX12_init 153 = .ok (.bastore, 1) := by decide +kernel
theorem dX12_init_154 : decode cX12_init 154 = .ok (.dup, 1) := by decide +kernel
theorem dX12_init_155 : decode cX12_init 155 = .ok (.bipush 18, 2) := by decide +kernel
theorem dX12_init_157 : decode cX12_init 157 = .ok (.bipush 102, 2) := by decide +kernel
theorem dX12_init_159 : decode cX12_init 159 = .ok (.bastore, 1) := by decide +kernel
theorem dX12_init_160 : decode cX12_init 160 = .ok (.dup, 1) := by decide +kernel
theorem dX12_init_161 : decode cX12_init 161 = .ok (.bipush 19, 2) := by decide +kernel
theorem dX12_init_163 : decode cX12_init 163 = .ok (.bipush 32, 2) := by decide +kernel
theorem dX12_init_165 : decode cX12_init 165 = .ok (.bastore, 1) := by decide +kernel
theorem dX12_init_166 : decode cX12_init 166 = .ok (.dup, 1) := by decide +kernel
theorem dX12_init_167 : decode cX12_init 167 = .ok (.bipush 20, 2) := by decide +kernel
theorem dX12_init_169 : decode cX12_init 169 = .ok (.bipush 111, 2) := by decide +kernel
theorem dX12_init_171 : decode cX12_init 171 = .ok (.bastore, 1) := by decide +kernel
theorem dX12_init_172 : decode cX12_init 172 = .ok (.dup, 1) := by decide +kernel
theorem dX12_init_173 : decode cX12_init 173 = .ok (.bipush 21, 2) := by decide +kernel
theorem dX12_init_175 : decode cX12_init 175 = .ok (.bipush 114, 2) := by decide +kernel
theorem dX12_init_177 : decode cX12_init 177 = .ok (.bastore, 1) := by decide +kernel
theorem dX12_init_178 : decode cX12_init 178 = .ok (.dup, 1) := by decide +kernel
theorem dX12_init_179 : decode cX12_init 179 = .ok (.bipush 22, 2) := by decide +kernel
theorem dX12_init_181 : decode cX12_init 181 = .ok (.bipush 32, 2) := by decide +kernel
theorem dX12_init_183 : decode cX12_init 183 = .ok (.bastore, 1) := by decide +kernel
theorem dX12_init_184 : decode cX12_init 184 = .ok (.dup, 1) := by decide +kernel
theorem dX12_init_185 : decode cX12_init 185 = .ok (.bipush 23, 2) := by decide +kernel
theorem dX12_init_187 : decode cX12_init 187 = .ok (.bipush 97, 2) := by decide +kernel
theorem dX12_init_189 : decode cX12_init 189 = .ok (.bastore, 1) := by decide +kernel
theorem dX12_init_190 : decode cX12_init 190 = .ok (.dup, 1) := by decide +kernel
theorem dX12_init_191 : decode cX12_init 191 = .ok (.bipush 24, 2) := by decide +kernel
theorem dX12_init_193 : decode cX12_init 193 = .ok (.bipush 110, 2) := by decide +kernel
theorem dX12_init_195 : decode cX12_init 195 = .ok (.bastore, 1) := by decide +kernel
theorem dX12_init_196 : decode cX12_init 196 = .ok (.dup, 1) := by decide +kernel
theorem dX12_init_197 : decode cX12_init 197 = .ok (.bipush 25, 2) := by decide +kernel
theorem dX12_init_199 : decode cX12_init 199 = .ok (.bipush 100, 2) := by decide +kernel
theorem dX12_init_201 : decode cX12_init 201 = .ok (.bastore, 1) := by decide +kernel
theorem dX12_init_202 : decode cX12_init 202 = .ok (.dup, 1) := by decide +kernel
theorem dX12_init_203 : decode cX12_init 203 = .ok (.bipush 26, 2) := by decide +kernel
theorem dX12_init_205 : decode cX12_init 205 = .ok (.bipush 32, 2) := by decide +kernel
theorem dX12_init_207 : decode cX12_init 207 = .ok (.bastore, 1) := by decide +kernel
theorem dX12_init_208 : decode cX12_init 208 = .ok (.dup, 1) := by decide +kernel
theorem dX12_init_209 : decode cX12_init 209 = .ok (.bipush 27, 2) := by decide +kernel
theorem dX12_init_211 : decode cX12_init 211 = .ok (.bipush 110, 2) := by decide +kernel
theorem dX12_init_213 : decode cX12_init 213 = .ok (.bastore, 1) := by decide +kernel
theorem dX12_init_214 : decode cX12_init 214 = .ok (.dup, 1) := by decide +kernel
theorem dX12_init_215 : decode cX12_init 215 = .ok (.bipush 28, 2) := by decide +kernel
theorem dX12_init_217 : decode cX12_init 217 = .ok (.bipush 111, 2) := by decide +kernel
theorem dX12_init_219 : decode cX12_init 219 = .ok (.bastore, 1) := by decide +kernel
theorem dX12_init_220 : decode cX12_init 220 = .ok (.dup, 1) := by decide +kernel
theorem dX12_init_221 : decode cX12_init 221 = .ok (.bipush 29, 2) := by decide +kernel
theorem dX12_init_223 : decode cX12_init 223 = .ok (.bipush 116, 2) := by decide +kernel
theorem dX12_init_225 : decode cX12_init 225 = .ok (.bastore, 1) := by decide +kernel
theorem dX12_init_226 : decode cX12_init 226 = .ok (.dup, 1) := by decide +kernel
theorem dX12_init_227 : decode cX12_init 227 = .ok (.bipush 30, 2) := by decide +kernel
theorem dX12_init_229 : decode cX12_init 229 = .ok (.bipush 32, 2) := by decide +kernel
theorem dX12_init_231 : decode cX12_init 231 = .ok (.bastore, 1) := by decide +kernel
theorem dX12_init_232 : decode cX12_init 232 = .ok (.dup, 1) := by decide +kernel
theorem dX12_init_233 : decode cX12_init 233 = .ok (.bipush 31, 2) := by decide +kernel
theorem dX12_init_235 : decode cX12_init 235 = .ok (.bipush 108, 2) := by decide +kernel
theorem dX12_init_237 : decode cX12_init 237 = .ok (.bastore, 1) := by decide +kernel
theorem dX12_init_238 : decode cX12_init 238 = .ok (.dup, 1) := by decide +kernel
theorem dX12_init_239 : decode cX12_init 239 = .ok (.bipush 32, 2) := by decide +kernel
theorem dX12_init_241 : decode cX12_init 241 = .ok (.bipush 101, 2) := by decide +kernel
theorem dX12_init_243 : decode cX12_init 243 = .ok (.bastore, 1) := by decide +kernel
theorem dX12_init_244 : decode cX12_init 244 = .ok (.dup, 1) := by decide +kernel
theorem dX12_init_245 : decode cX12_init 245 = .ok (.bipush 33, 2) := by decide +kernel
theorem dX12_init_247 : decode cX12_init 247 = .ok (.bipush 110, 2) := by decide +kernel
theorem dX12_init_249 : decode cX12_init 249 = .ok (.bastore, 1) := by decide +kernel
theorem dX12_init_250 : decode cX12_init 250 = .ok (.dup, 1) := by decide +kernel
theorem dX12_init_251 : decode cX12_init 251 = .ok (.bipush 34, 2) := by decide +kernel
theorem dX12_init_253 : decode cX12_init 253 = .ok (.bipush 103, 2) := by decide +kernel
theorem dX12_init_255 : decode cX12_init 255 = .ok (.bastore, 1) := by decide +kernel
theorem dX12_init_256 : decode cX12_init 256 = .ok (.dup, 1) := by decide +kernel
theorem dX12_init_257 : decode cX12_init 257 = .ok (.bipush 35, 2) := by decide +kernel
theorem dX12_init_259 : decode cX12_init 259 = .ok (.bipush 116, 2) := by decide +kernel
theorem dX12_init_261 : decode cX12_init 261 = .ok (.bastore, 1) := by decide +kernel
theorem dX12_init_262 : decode cX12_init 262 = .ok (.dup, 1) := by decide +kernel
theorem dX12_init_263 : decode cX12_init 263 = .ok (.bipush 36, 2) := by decide +kernel
theorem dX12_init_265 : decode cX12_init 265 = .ok (.bipush 104, 2) := by decide +kernel
theorem dX12_init_267 : decode cX12_init 267 = .ok (.bastore, 1) := by decide +kernel
theorem dX12_init_268 : decode cX12_init 268 = .ok (.dup, 1) := by decide +kernel
theorem dX12_init_269 : decode cX12_init 269 = .ok (.bipush 37, 2) := by decide +kernel
theorem dX12_init_271 : decode cX12_init 271 = .ok (.bipush 32, 2) := by decide +kernel
theorem dX12_init_273 : decode cX12_init 273 = .ok (.bastore, 1) := by decide +kernel
theorem dX12_init_274 : decode cX12_init 274 = .ok (.dup, 1) := by decide +kernel
theorem dX12_init_275 : decode cX12_init 275 = .ok (.bipush 38, 2) := by decide +kernel
theorem dX12_init_277 : decode cX12_init 277 = .ok (.bipush 118, 2) := by decide +kernel
theorem dX12_init_279 : decode cX12_init 279 = .ok (.bastore, 1) := by decide +kernel
theorem dX12_init_280 : decode cX12_init 280 = .ok (.dup, 1) := by decide +kernel
theorem dX12_init_281 : decode cX12_init 281 = .ok (.bipush 39, 2) := by decide +kernel
theorem dX12_init_283 : decode cX12_init 283 = .ok (.bipush 111, 2) := by decide +kernel
theorem dX12_init_285 : decode cX12_init 285 = .ok (.bastore, 1) := by decide +kernel
theorem dX12_init_286 : decode cX12_init 286 = .ok (.dup, 1) := by decide +kernel
theorem dX12_init_287 : decode cX12_init 287 = .ok (.bipush 40, 2) := by decide +kernel
theorem dX12_init_289 : decode cX12_init 289 = .ok (.bipush 105, 2) := by decide +kernel
theorem dX12_init_291 : decode cX12_init 291 = .ok (.bastore, 1) := by decide +kernel
theorem dX12_init_292 : decode cX12_init 292 = .ok (.dup, 1) := by decide +kernel
theorem dX12_init_293 : decode cX12_init 293 = .ok (.bipush 41, 2) := by decide +kernel
theorem dX12_init_295 : decode cX12_init 295 = .ok (.bipush 99, 2) := by decide +kernel
theorem dX12_init_297 : decode cX12_init 297 = .ok (.bastore, 1) := by decide +kernel
theorem dX12_init_298 : decode cX12_init 298 = .ok (.dup, 1) := by decide +kernel
theorem dX12_init_299 : decode cX12_init 299 = .ok (.bipush 42, 2) := by decide +kernel
theorem dX12_init_301 : decode cX12_init 301 = .ok (.bipush 101, 2) := by decide +kernel
theorem dX12_init_303 : decode cX12_init 303 = .ok (.bastore, 1) := by decide +kernel
theorem dX12_init_304 : decode cX12_init 304 = .ok (.dup, 1) := by decide +kernel
theorem dX12_init_305 : decode cX12_init 305 = .ok (.bipush 43, 2) := by decide +kernel
theorem dX12_init_307 : decode cX12_init 307 = .ok (.bipush 115, 2) := by decide +kernel
theorem dX12_init_309 : decode cX12_init 309 = .ok (.bastore, 1) := by decide +kernel
theorem dX12_init_310 : decode cX12_init 310 = .ok (.dup, 1) := by decide +kernel
theorem dX12_init_311 : decode cX12_init 311 = .ok (.bipush 44, 2) := by decide +kernel
theorem dX12_init_313 : decode cX12_init 313 = .ok (.bipush 32, 2) := by decide +kernel
theorem dX12_init_315 : decode cX12_init 315 = .ok (.bastore, 1) := by decide +kernel
theorem dX12_init_316 : decode cX12_init 316 = .ok (.dup, 1) := by decide +kernel
theorem dX12_init_317 : decode cX12_init 317 = .ok (.bipush 45, 2) := by decide +kernel
theorem dX12_init_319 : decode cX12_init 319 = .ok (.bipush 97, 2) := by decide +kernel
theorem dX12_init_321 : decode cX12_init 321 = .ok (.bastore, 1) := by decide +kernel
theorem dX12_init_322 : decode cX12_init 322 = .ok (.dup, 1) := by decide +kernel
theorem dX12_init_323 : decode cX12_init 323 = .ok (.bipush 46, 2) := by decide +kernel
theorem dX12_init_325 : decode cX12_init 325 = .ok (.bipush 115, 2) := by decide +kernel
theorem dX12_init_327 : decode cX12_init 327 = .ok (.bastore, 1) := by decide +kernel
theorem dX12_init_328 : decode cX12_init 328 = .ok (.dup, 1) := by decide +kernel
theorem dX12_init_329 : decode cX12_init 329 = .ok (.bipush 47, 2) := by decide +kernel
theorem dX12_init_331 : decode cX12_init 331 = .ok (.bipush 107, 2) := by decide +kernel
theorem dX12_init_333 : decode cX12_init 333 = .ok (.bastore, 1) := by decide +kernel
theorem dX12_init_334 : decode cX12_init 334 = .ok (.dup, 1) := by decide +kernel
theorem dX12_init_335 : decode cX12_init 335 = .ok (.bipush 48, 2) := by decide +kernel
theorem dX12_init_337 : decode cX12_init 337 = .ok (.bipush 101, 2) := by decide +kernel
theorem dX12_init_339 : decode cX12_init 339 = .ok (.bastore, 1) := by decide +kernel
theorem dX12_init_340 : decode cX12_init 340 = .ok (.dup, 1) := by decide +kernel
theorem dX12_init_341 : decode cX12_init 341 = .ok (.bipush 49, 2) := by decide +kernel
theorem dX12_init_343 : decode cX12_init 343 = .ok (.bipush 114, 2) := by decide +kernel
theorem dX12_init_345 : decode cX12_init 345 = .ok (.bastore, 1) := by decide +kernel
theorem dX12_init_346 : decode cX12_init 346 = .ok (.dup, 1) := by decide +kernel
theorem dX12_init_347 : decode cX12_init 347 = .ok (.bipush 50, 2) := by decide +kernel
theorem dX12_init_349 : decode cX12_init 349 = .ok (.bipush 32, 2) := by decide +kernel
theorem dX12_init_351 : decode cX12_init 351 = .ok (.bastore, 1) := by decide +kernel
theorem dX12_init_352 : decode cX12_init 352 = .ok (.dup, 1) := by decide +kernel
theorem dX12_init_353 : decode cX12_init 353 = .ok (.bipush 51, 2) := by decide +kernel
theorem dX12_init_355 : decode cX12_init 355 = .ok (.bipush 97, 2) := by decide +kernel
theorem dX12_init_357 : decode cX12_init 357 = .ok (.bastore, 1) := by decide +kernel
theorem dX12_init_358 : decode cX12_init 358 = .ok (.dup, 1) := by decide +kernel
theorem dX12_init_359 : decode cX12_init 359 = .ok (.bipush 52, 2) := by decide +kernel
theorem dX12_init_361 : decode cX12_init 361 = .ok (.bipush 103, 2) := by decide +kernel
theorem dX12_init_363 : decode cX12_init 363 = .ok (.bastore, 1) := by decide +kernel
theorem dX12_init_364 : decode cX12_init 364 = .ok (.dup, 1) := by decide +kernel
theorem dX12_init_365 : decode cX12_init 365 = .ok (.bipush 53, 2) := by decide +kernel
theorem dX12_init_367 : decode cX12_init 367 = .ok (.bipush 101, 2) := by decide +kernel
theorem dX12_init_369 : decode cX12_init 369 = .ok (.bastore, 1) := by decide +kernel
theorem dX12_init_370 : decode cX12_init 370 = .ok (.dup, 1) := by decide +kernel
theorem dX12_init_371 : decode cX12_init 371 = .ok (.bipush 54, 2) := by decide +kernel
theorem dX12_init_373 : decode cX12_init 373 = .ok (.bipush 32, 2) := by decide +kernel
theorem dX12_init_375 : decode cX12_init 375 = .ok (.bastore, 1) := by decide +kernel
theorem dX12_init_376 : decode cX12_init 376 = .ok (.dup, 1) := by decide +kernel
theorem dX12_init_377 : decode cX12_init 377 = .ok (.bipush 55, 2) := by decide +kernel
theorem dX12_init_379 : decode cX12_init 379 = .ok (.bipush 116, 2) := by decide +kernel
theorem dX12_init_381 : decode cX12_init 381 = .ok (.bastore, 1) := by decide +kernel
theorem dX12_init_382 : decode cX12_init 382 = .ok (.dup, 1) := by decide +kernel
theorem dX12_init_383 : decode cX12_init 383 = .ok (.bipush 56, 2) := by decide +kernel
theorem dX12_init_385 : decode cX12_init 385 = .ok (.bipush 104, 2) := by decide +kernel
theorem dX12_init_387 : decode cX12_init 387 = .ok (.bastore, 1) := by decide +kernel
theorem dX12_init_388 : decode cX12_init 388 = .ok (.dup, 1) := by decide +kernel
theorem dX12_init_389 : decode cX12_init 389 = .ok (.bipush 57, 2) := by decide +kernel
theorem dX12_init_391 : decode cX12_init 391 = .ok (.bipush 105, 2) := by decide +kernel
theorem dX12_init_393 : decode cX12_init 393 = .ok (.bastore, 1) := by decide +kernel
theorem dX12_init_394 : decode cX12_init 394 = .ok (.dup, 1) := by decide +kernel
theorem dX12_init_395 : decode cX12_init 395 = .ok (.bipush 58, 2) := by decide +kernel
theorem dX12_init_397 : decode cX12_init 397 = .ok (.bipush 110, 2) := by decide +kernel
theorem dX12_init_399 : decode cX12_init 399 = .ok (.bastore, 1) := by decide +kernel
theorem dX12_init_400 : decode cX12_init 400 = .ok (.dup, 1) := by decide +kernel
theorem dX12_init_401 : decode cX12_init 401 = .ok (.bipush 59, 2) := by decide +kernel
theorem dX12_init_403 : decode cX12_init 403 = .ok (.bipush 103, 2) := by decide +kernel
theorem dX12_init_405 : decode cX12_init 405 = .ok (.bastore, 1) := by decide +kernel
theorem dX12_init_406 : decode cX12_init 406 = .ok (.dup, 1) := by decide +kernel
theorem dX12_init_407 : decode cX12_init 407 = .ok (.bipush 60, 2) := by decide +kernel
theorem dX12_init_409 : decode cX12_init 409 = .ok (.bipush 32, 2) := by decide +kernel
theorem dX12_init_411 : decode cX12_init 411 = .ok (.bastore, 1) := by decide +kernel
theorem dX12_init_412 : decode cX12_init 412 = .ok (.dup, 1) := by decide +kernel
theorem dX12_init_413 : decode cX12_init 413 = .ok (.bipush 61, 2) := by decide +kernel
theorem dX12_init_415 : decode cX12_init 415 = .ok (.bipush 119, 2) := by decide +kernel
theorem dX12_init_417 : decode cX12_init 417 = .ok (.bastore, 1) := by decide +kernel
theorem dX12_init_418 : decode cX12_init 418 = .ok (.dup, 1) := by decide +kernel
theorem dX12_init_419 : decode cX12_init 419 = .ok (.bipush 62, 2) := by decide +kernel
theorem dX12_init_421 : decode cX12_init 421 = .ok (.bipush 97, 2) := by decide +kernel
theorem dX12_init_423 : decode cX12_init 423 = .ok (.bastore, 1) := by decide +kernel
theorem dX12_init_424 : decode cX12_init 424 = .ok (.dup, 1) := by decide +kernel
theorem dX12_init_425 : decode cX12_init 425 = .ok (.bipush 63, 2) := by decide +kernel
theorem dX12_init_427 : decode cX12_init 427 = .ok (.bipush 105, 2) := by decide +kernel
theorem dX12_init_429 : decode cX12_init 429 = .ok (.bastore, 1) := by decide +kernel
theorem dX12_init_430 : decode cX12_init 430 = .ok (.dup, 1) := by decide +kernel
theorem dX12_init_431 : decode cX12_init 431 = .ok (.bipush 64, 2) := by decide +kernel
theorem dX12_init_433 : decode cX12_init 433 = .ok (.bipush 116, 2) := by decide +kernel
theorem dX12_init_435 : decode cX12_init 435 = .ok (.bastore, 1) := by decide +kernel
theorem dX12_init_436 : decode cX12_init 436 = .ok (.dup, 1) := by decide +kernel
theorem dX12_init_437 : decode cX12_init 437 = .ok (.bipush 65, 2) := by decide +kernel
theorem dX12_init_439 : decode cX12_init 439 = .ok (.bipush 115, 2) := by decide +kernel
theorem dX12_init_441 : decode cX12_init 441 = .ok (.bastore, 1) := by decide +kernel
theorem dX12_init_442 : decode cX12_init 442 = .ok (.dup, 1) := by decide +kernel
theorem dX12_init_443 : decode cX12_init 443 = .ok (.bipush 66, 2) := by decide +kernel
theorem dX12_init_445 : decode cX12_init 445 = .ok (.bipush 32, 2) := by decide +kernel
theorem dX12_init_447 : decode cX12_init 447 = .ok (.bastore, 1) := by decide +kernel
theorem dX12_init_448 : decode cX12_init 448 = .ok (.dup, 1) := by decide +kernel
theorem dX12_init_449 : decode cX12_init 449 = .ok (.bipush 67, 2) := by decide +kernel
theorem dX12_init_451 : decode cX12_init 451 = .ok (.bipush 109, 2) := by decide +kernel
theorem dX12_init_453 : decode cX12_init 453 = .ok (.bastore, 1) := by decide +kernel
theorem dX12_init_454 : decode cX12_init 454 = .ok (.dup, 1) := by decide +kernel
theorem dX12_init_455 : decode cX12_init 455 = .ok (.bipush 68, 2) := by decide +kernel
theorem dX12_init_457 : decode cX12_init 457 = .ok (.bipush 111, 2) := by decide +kernel
theorem dX12_init_459 : decode cX12_init 459 = .ok (.bastore, 1) := by decide +kernel
theorem dX12_init_460 : decode cX12_init 460 = .ok (.dup, 1) := by decide +kernel
theorem dX12_init_461 : decode cX12_init 461 = .ok (.bipush 69, 2) := by decide +kernel
theorem dX12_init_463 : decode cX12_init 463 = .ok (.bipush 111, 2) := by decide +kernel
theorem dX12_init_465 : decode cX12_init 465 = .ok (.bastore, 1) := by decide +kernel
theorem dX12_init_466 : decode cX12_init 466 = .ok (.dup, 1) := by decide +kernel
theorem dX12_init_467 : decode cX12_init 467 = .ok (.bipush 70, 2) := by decide +kernel
theorem dX12_init_469 : decode cX12_init 469 = .ok (.bipush 100, 2) := by decide +kernel
theorem dX12_init_471 : decode cX12_init 471 = .ok (.bastore, 1) := by decide +kernel
theorem dX12_init_472 : decode cX12_init 472 = .ok (.dup, 1) := by decide +kernel
theorem dX12_init_473 : decode cX12_init 473 = .ok (.bipush 71, 2) := by decide +kernel
theorem dX12_init_475 : decode cX12_init 475 = .ok (.bipush 32, 2) := by decide +kernel
theorem dX12_init_477 : decode cX12_init 477 = .ok (.bastore, 1) := by decide +kernel
theorem dX12_init_478 : decode cX12_init 478 = .ok (.dup, 1) := by decide +kernel
theorem dX12_init_479 : decode cX12_init 479 = .ok (.bipush 72, 2) := by decide +kernel
theorem dX12_init_481 : decode cX12_init 481 = .ok (.bipush 100, 2) := by decide +kernel
theorem dX12_init_483 : decode cX12_init 483 = .ok (.bastore, 1) := by decide +kernel
theorem dX12_init_484 : decode cX12_init 484 = .ok (.dup, 1) := by decide +kernel
theorem dX12_init_485 : decode cX12_init 485 = .ok (.bipush 73, 2) := by decide +kernel
theorem dX12_init_487 : decode cX12_init 487 = .ok (.bipush 97, 2) := by decide +kernel
theorem dX12_init_489 : decode cX12_init 489 = .ok (.bastore, 1) := by decide +kernel
theorem dX12_init_490 : decode cX12_init 490 = .ok (.dup, 1) := by decide +kernel
theorem dX12_init_491 : decode cX12_init 491 = .ok (.bipush 74, 2) := by decide +kernel
theorem dX12_init_493 : decode cX12_init 493 = .ok (.bipush 121, 2) := by decide +kernel
theorem dX12_init_495 : decode cX12_init 495 = .ok (.bastore, 1) := by decide +kernel
theorem dX12_init_496 : decode cX12_init 496 = .ok (.dup, 1) := by decide +kernel
theorem dX12_init_497 : decode cX12_init 497 = .ok (.bipush 75, 2) := by decide +kernel
theorem dX12_init_499 : decode cX12_init 499 = .ok (.bipush 32, 2) := by decide +kernel
theorem dX12_init_501 : decode cX12_init 501 = .ok (.bastore, 1) := by decide +kernel
theorem dX12_init_502 : decode cX12_init 502 = .ok (.dup, 1) := by decide +kernel
theorem dX12_init_503 : decode cX12_init 503 = .ok (.bipush 76, 2) := by decide +kernel
theorem dX12_init_505 : decode cX12_init 505 = .ok (.bipush 112, 2) := by decide +kernel
theorem dX12_init_507 : decode cX12_init 507 = .ok (.bastore, 1) := by decide +kernel
theorem dX12_init_508 : decode cX12_init 508 = .ok (.dup, 1) := by decide +kernel
theorem dX12_init_509 : decode cX12_init 509 = .ok (.bipush 77, 2) := by decide +kernel
theorem dX12_init_511 : decode cX12_init 511 = .ok (.bipush 114, 2) := by decide +kernel
theorem dX12_init_513 : decode cX12_init 513 = .ok (.bastore, 1) := by decide +kernel
theorem dX12_init_514 : decode cX12_init 514 = .ok (.dup, 1) := by decide +kernel
theorem dX12_init_515 : decode cX12_init 515 = .ok (.bipush 78, 2) := by decide +kernel
theorem dX12_init_517 : decode cX12_init 517 = .ok (.bipush 97, 2) := by decide +kernel
theorem dX12_init_519 : decode cX12_init 519 = .ok (.bastore, 1) := by decide +kernel
theorem dX12_init_520 : decode cX12_init 520 = .ok (.dup, 1) := by decide +kernel
theorem dX12_init_521 : decode cX12_init 521 = .ok (.bipush 79, 2) := by decide +kernel
theorem dX12_init_523 : decode cX12_init 523 = .ok (.bipush 121, 2) := by decide +kernel
theorem dX12_init_525 : decode cX12_init 525 = .ok (.bastore, 1) := by decide +kernel
theorem dX12_init_526 : decode cX12_init 526 = .ok (.dup, 1) := by decide +kernel
theorem dX12_init_527 : decode cX12_init 527 = .ok (.bipush 80, 2) := by decide +kernel
theorem dX12_init_529 : decode cX12_init 529 = .ok (.bipush 101, 2) := by decide +kernel
theorem dX12_init_531 : decode cX12_init 531 = .ok (.bastore, 1) := by decide +kernel
theorem dX12_init_532 : decode cX12_init 532 = .ok (.dup, 1) := by decide +kernel
theorem dX12_init_533 : decode cX12_init 533 = .ok (.bipush 81, 2) := by decide +kernel
theorem dX12_init_535 : decode cX12_init 535 = .ok (.bipush 114, 2) := by decide +kernel
theorem dX12_init_537 : decode cX12_init 537 = .ok (.bastore, 1) := by decide +kernel
theorem dX12_init_538 : decode cX12_init 538 = .ok (.dup, 1) := by decide +kernel
theorem dX12_init_539 : decode cX12_init 539 = .ok (.bipush 82, 2) := by decide +kernel
theorem dX12_init_541 : decode cX12_init 541 = .ok (.bipush 115, 2) := by decide +kernel
theorem dX12_init_543 : decode cX12_init 543 = .ok (.bastore, 1) := by decide +kernel
theorem dX12_init_544 : decode cX12_init 544 = .ok (.dup, 1) := by decide +kernel
theorem dX12_init_545 : decode cX12_init 545 = .ok (.bipush 83, 2) := by decide +kernel
theorem dX12_init_547 : decode cX12_init 547 = .ok (.bipush 32, 2) := by decide +kernel
theorem dX12_init_549 : decode cX12_init 549 = .ok (.bastore, 1) := by decide +kernel
theorem dX12_init_550 : decode cX12_init 550 = .ok (.dup, 1) := by decide +kernel
theorem dX12_init_551 : decode cX12_init 551 = .ok (.bipush 84, 2) := by decide +kernel
theorem dX12_init_553 : decode cX12_init 553 = .ok (.bipush 119, 2) := by decide +kernel
theorem dX12_init_555 : decode cX12_init 555 = .ok (.bastore, 1) := by decide +kernel
theorem dX12_init_556 : decode cX12_init 556 = .ok (.dup, 1) := by decide +kernel
theorem dX12_init_557 : decode cX12_init 557 = .ok (.bipush 85, 2) := by decide +kernel
theorem dX12_init_559 : decode cX12_init 559 = .ok (.bipush 97, 2) := by decide +kernel
theorem dX12_init_561 : decode cX12_init 561 = .ok (.bastore, 1) := by decide +kernel
theorem dX12_init_562 : decode cX12_init 562 = .ok (.dup, 1) := by decide +kernel
theorem dX12_init_563 : decode cX12_init 563 = .ok (.bipush 86, 2) := by decide +kernel
theorem dX12_init_565 : decode cX12_init 565 = .ok (.bipush 105, 2) := by decide +kernel
theorem dX12_init_567 : decode cX12_init 567 = .ok (.bastore, 1) := by decide +kernel
theorem dX12_init_568 : decode cX12_init 568 = .ok (.dup, 1) := by decide +kernel
theorem dX12_init_569 : decode cX12_init 569 = .ok (.bipush 87, 2) := by decide +kernel
theorem dX12_init_571 : decode cX12_init 571 = .ok (.bipush 116, 2) := by decide +kernel
theorem dX12_init_573 : decode cX12_init 573 = .ok (.bastore, 1) := by decide +kernel
theorem dX12_init_574 : decode cX12_init 574 = .ok (.dup, 1) := by decide +kernel
theorem dX12_init_575 : decode cX12_init 575 = .ok (.bipush 88, 2) := by decide +kernel
theorem dX12_init_577 : decode cX12_init 577 = .ok (.bipush 105, 2) := by decide +kernel
theorem dX12_init_579 : decode cX12_init 579 = .ok (.bastore, 1) := by decide +kernel
theorem dX12_init_580 : decode cX12_init 580 = .ok (.dup, 1) := by decide +kernel
theorem dX12_init_581 : decode cX12_init 581 = .ok (.bipush 89, 2) := by decide +kernel
theorem dX12_init_583 : decode cX12_init 583 = .ok (.bipush 110, 2) := by decide +kernel
theorem dX12_init_585 : decode cX12_init 585 = .ok (.bastore, 1) := by decide +kernel
theorem dX12_init_586 : decode cX12_init 586 = .ok (.dup, 1) := by decide +kernel
theorem dX12_init_587 : decode cX12_init 587 = .ok (.bipush 90, 2) := by decide +kernel
theorem dX12_init_589 : decode cX12_init 589 = .ok (.bipush 103, 2) := by decide +kernel
theorem dX12_init_591 : decode cX12_init 591 = .ok (.bastore, 1) := by decide +kernel
theorem dX12_init_592 : decode cX12_init 592 = .ok (.dup, 1) := by decide +kernel
theorem dX12_init_593 : decode cX12_init 593 = .ok (.bipush 91, 2) := by decide +kernel
theorem dX12_init_595 : decode cX12_init 595 = .ok (.bipush 32, 2) := by decide +kernel
theorem dX12_init_597 : decode cX12_init 597 = .ok (.bastore, 1) := by decide +kernel
theorem dX12_init_598 : decode cX12_init 598 = .ok (.dup, 1) := by decide +kernel
theorem dX12_init_599 : decode cX12_init 599 = .ok (.bipush 92, 2) := by decide +kernel
theorem dX12_init_601 : decode cX12_init 601 = .ok (.bipush 100, 2) := by decide +kernel
theorem dX12_init_603 : decode cX12_init 603 = .ok (.bastore, 1) := by decide +kernel
theorem dX12_init_604 : decode cX12_init 604 = .ok (.dup, 1) := by decide +kernel
theorem dX12_init_605 : decode cX12_init 605 = .ok (.bipush 93, 2) := by decide +kernel
theorem dX12_init_607 : decode cX12_init 607 = .ok (.bipush 111, 2) := by decide +kernel
theorem dX12_init_609 : decode cX12_init 609 = .ok (.bastore, 1) := by decide +kernel
theorem dX12_init_610 : decode cX12_init 610 = .ok (.dup, 1) := by decide +kernel
theorem dX12_init_611 : decode cX12_init 611 = .ok (.bipush 94, 2) := by decide +kernel
theorem dX12_init_613 : decode cX12_init 613 = .ok (.bipush 110, 2) := by decide +kernel
theorem dX12_init_615 : decode cX12_init 615 = .ok (.bastore, 1) := by decide +kernel
theorem dX12_init_616 : decode cX12_init 616 = .ok (.dup, 1) := by decide +kernel
theorem dX12_init_617 : decode cX12_init 617 = .ok (.bipush 95, 2) := by decide +kernel
theorem dX12_init_619 : decode cX12_init 619 = .ok (.bipush 101, 2) := by decide +kernel
theorem dX12_init_621 : decode cX12_init 621 = .ok (.bastore, 1) := by decide +kernel
theorem dX12_init_622 : decode cX12_init 622 = .ok (.dup, 1) := by decide +kernel
theorem dX12_init_623 : decode cX12_init 623 = .ok (.bipush 96, 2) := by decide +kernel
theorem dX12_init_625 : decode cX12_init 625 = .ok (.bipush 32, 2) := by decide +kernel
theorem dX12_init_627 : decode cX12_init 627 = .ok (.bastore, 1) := by decide +kernel
theorem dX12_init_628 : decode cX12_init 628 = .ok (.dup, 1) := by decide +kernel
theorem dX12_init_629 : decode cX12_init 629 = .ok (.bipush 97, 2) := by decide +kernel
theorem dX12_init_631 : decode cX12_init 631 = .ok (.bipush 115, 2) := by decide +kernel
theorem dX12_init_633 : decode cX12_init 633 = .ok (.bastore, 1) := by decide +kernel
theorem dX12_init_634 : decode cX12_init 634 = .ok (.dup, 1) := by decide +kernel
theorem dX12_init_635 : decode cX12_init 635 = .ok (.bipush 98, 2) := by decide +kernel
theorem dX12_init_637 : decode cX12_init 637 = .ok (.bipush 97, 2) := by decide +kernel
theorem dX12_init_639 : decode cX12_init 639 = .ok (.bastore, 1) := by decide +kernel
theorem dX12_init_640 : decode cX12_init 640 = .ok (.dup, 1) := by decide +kernel
theorem dX12_init_641 : decode cX12_init 641 = .ok (.bipush 99, 2) := by decide +kernel
theorem dX12_init_643 : decode cX12_init 643 = .ok (.bipush 105, 2) := by decide +kernel
theorem dX12_init_645 : decode cX12_init 645 = .ok (.bastore, 1) := by decide +kernel
theorem dX12_init_646 : decode cX12_init 646 = .ok (.dup, 1) := by decide +kernel
theorem dX12_init_647 : decode cX12_init 647 = .ok (.bipush 100, 2) := by decide +kernel
theorem dX12_init_649 : decode cX12_init 649 = .ok (.bipush 100, 2) := by decide +kernel
theorem dX12_init_651 : decode cX12_init 651 = .ok (.bastore, 1) := by decide +kernel
theorem dX12_init_652 : decode cX12_init 652 = .ok (.dup, 1) := by decide +kernel
theorem dX12_init_653 : decode cX12_init 653 = .ok (.bipush 101, 2) := by decide +kernel
theorem dX12_init_655 : decode cX12_init 655 = .ok (.bipush 32, 2) := by decide +kernel
theorem dX12_init_657 : decode cX12_init 657 = .ok (.bastore, 1) := by decide +kernel
theorem dX12_init_658 : decode cX12_init 658 = .ok (.dup, 1) := by decide +kernel
theorem dX12_init_659 : decode cX12_init 659 = .ok (.bipush 102, 2) := by decide +kernel
theorem dX12_init_661 : decode cX12_init 661 = .ok (.bipush 103, 2) := by decide +kernel
theorem dX12_init_663 : decode cX12_init 663 = .ok (.bastore, 1) := by decide +kernel
theorem dX12_init_664 : decode cX12_init 664 = .ok (.dup, 1) := by decide +kernel
theorem dX12_init_665 : decode cX12_init 665 = .ok (.bipush 103, 2) := by decide +kernel
theorem dX12_init_667 : decode cX12_init 667 = .ok (.bipush 114, 2) := by decide +kernel
theorem dX12_init_669 : decode cX12_init 669 = .ok (.bastore, 1) := by decide +kernel
theorem dX12_init_670 : decode cX12_init 670 = .ok (.dup, 1) := by decide +kernel
theorem dX12_init_671 : decode cX12_init 671 = .ok (.bipush 104, 2) := by decide +kernel
theorem dX12_init_673 : decode cX12_init 673 = .ok (.bipush 97, 2) := by decide +kernel
theorem dX12_init_675 : decode cX12_init 675 = .ok (.bastore, 1) := by decide +kernel
theorem dX12_init_676 : decode cX12_init 676 = .ok (.dup, 1) := by decide +kernel
theorem dX12_init_677 : decode cX12_init 677 = .ok (.bipush 105, 2) := by decide +kernel
theorem dX12_init_679 : decode cX12_init 679 = .ok (.bipush 110, 2) := by decide +kernel
theorem dX12_init_681 : decode cX12_init 681 = .ok (.bastore, 1) := by decide +kernel
theorem dX12_init_682 : decode cX12_init 682 = .ok (.dup, 1) := by decide +kernel
theorem dX12_init_683 : decode cX12_init 683 = .ok (.bipush 106, 2) := by decide +kernel
theorem dX12_init_685 : decode cX12_init 685 = .ok (.bipush 116, 2) := by decide +kernel
theorem dX12_init_687 : decode cX12_init 687 = .ok (.bastore, 1) := by decide +kernel
theorem dX12_init_688 : decode cX12_init 688 = .ok (.dup, 1) := by decide +kernel
theorem dX12_init_689 : decode cX12_init 689 = .ok (.bipush 107, 2) := by decide +kernel
theorem dX12_init_691 : decode cX12_init 691 = .ok (.bipush 101, 2) := by decide +kernel
theorem dX12_init_693 : decode cX12_init 693 = .ok (.bastore, 1) := by decide +kernel
theorem dX12_init_694 : decode cX12_init 694 = .ok (.dup, 1) := by decide +kernel
theorem dX12_init_695 : decode cX12_init 695 = .ok (.bipush 108, 2) := by decide +kernel
theorem dX12_init_697 : decode cX12_init 697 = .ok (.bipush 100, 2) := by decide +kernel
theorem dX12_init_699 : decode cX12_init 699 = .ok (.bastore, 1) := by decide +kernel
theorem dX12_init_700 : decode cX12_init 700 = .ok (.dup, 1) := by decide +kernel
theorem dX12_init_701 : decode cX12_init 701 = .ok (.bipush 109, 2) := by decide +kernel
theorem dX12_init_703 : decode cX12_init 703 = .ok (.bipush 32, 2) := by decide +kernel
theorem dX12_init_705 : decode cX12_init 705 = .ok (.bastore, 1) := by decide +kernel
theorem dX12_init_706 : decode cX12_init 706 = .ok (.dup, 1) := by decide +kernel
theorem dX12_init_707 : decode cX12_init 707 = .ok (.bipush 110, 2) := by decide +kernel
theorem dX12_init_709 : decode cX12_init 709 = .ok (.bipush 112, 2) := by decide +kernel
theorem dX12_init_711 : decode cX12_init 711 = .ok (.bastore, 1) := by decide +kernel
theorem dX12_init_712 : decode cX12_init 712 = .ok (.dup, 1) := by decide +kernel
theorem dX12_init_713 : decode cX12_init 713 = .ok (.bipush 111, 2) := by decide +kernel
theorem dX12_init_715 : decode cX12_init 715 = .ok (.bipush 114, 2) := by decide +kernel
theorem dX12_init_717 : decode cX12_init 717 = .ok (.bastore, 1) := by decide +kernel
theorem dX12_init_718 : decode cX12_init 718 = .ok (.dup, 1) := by decide +kernel
theorem dX12_init_719 : decode cX12_init 719 = .ok (.bipush 112, 2) := by decide +kernel
theorem dX12_init_721 : decode cX12_init 721 = .ok (.bipush 97, 2) := by decide +kernel
theorem dX12_init_723 : decode cX12_init 723 = .ok (.bastore, 1) := by decide +kernel
theorem dX12_init_724 : decode cX12_init 724 = .ok (.dup, 1) := by decide +kernel
theorem dX12_init_725 : decode cX12_init 725 = .ok (.bipush 113, 2) := by decide +kernel
theorem dX12_init_727 : decode cX12_init 727 = .ok (.bipush 121, 2) := by decide +kernel
theorem dX12_init_729 : decode cX12_init 729 = .ok (.bastore, 1) := by decide +kernel
theorem dX12_init_730 : decode cX12_init 730 = .ok (.dup, 1) := by decide +kernel
theorem dX12_init_731 : decode cX12_init 731 = .ok (.bipush 114, 2) := by decide +kernel
theorem dX12_init_733 : decode cX12_init 733 = .ok (.bipush 32, 2) := by decide +kernel
theorem dX12_init_735 : decode cX12_init 735 = .ok (.bastore, 1) := by decide +kernel
theorem dX12_init_736 : decode cX12_init 736 = .ok (.dup, 1) := by decide +kernel
theorem dX12_init_737 : decode cX12_init 737 = .ok (.bipush 115, 2) := by decide +kernel
theorem dX12_init_739 : decode cX12_init 739 = .ok (.bipush 102, 2) := by decide +kernel
theorem dX12_init_741 : decode cX12_init 741 = .ok (.bastore, 1) := by decide +kernel
theorem dX12_init_742 : decode cX12_init 742 = .ok (.dup, 1) := by decide +kernel
theorem dX12_init_743 : decode cX12_init 743 = .ok (.bipush 116, 2) := by decide +kernel
theorem dX12_init_745 : decode cX12_init 745 = .ok (.bipush 111, 2) := by decide +kernel
theorem dX12_init_747 : decode cX12_init 747 = .ok (.bastore, 1) := by decide +kernel
theorem dX12_init_748 : decode cX12_init 748 = .ok (.dup, 1) := by decide +kernel
theorem dX12_init_749 : decode cX12_init 749 = .ok (.bipush 117, 2) := by decide +kernel
theorem dX12_init_751 : decode cX12_init 751 = .ok (.bipush 114, 2) := by decide +kernel
theorem dX12_init_753 : decode cX12_init 753 = .ok (.bastore, 1) := by decide +kernel
theorem dX12_init_754 : decode cX12_init 754 = .ok (.dup, 1) := by decide +kernel
theorem dX12_init_755 : decode cX12_init 755 = .ok (.bipush 118, 2) := by decide +kernel
theorem dX12_init_757 : decode cX12_init 757 = .ok (.bipush 32, 2) := by decide +kernel
theorem dX12_init_759 : decode cX12_init 759 = .ok (.bastore, 1) := by decide +kernel
theorem dX12_init_760 : decode cX12_init 760 = .ok (.dup, 1) := by decide +kernel
theorem dX12_init_761 : decode cX12_init 761 = .ok (.bipush 119, 2) := by decide +kernel
theorem dX12_init_763 : decode cX12_init 763 = .ok (.bipush 111, 2) := by decide +kernel
theorem dX12_init_765 : decode cX12_init 765 = .ok (.bastore, 1) := by decide +kernel
theorem dX12_init_766 : decode cX12_init 766 = .ok (.dup, 1) := by decide +kernel
theorem dX12_init_767 : decode cX12_init 767 = .ok (.bipush 120, 2) := by decide +kernel
theorem dX12_init_769 : decode cX12_init 769 = .ok (.bipush 102, 2) := by decide +kernel
theorem dX12_init_771 : decode cX12_init 771 = .ok (.bastore, 1) := by decide +kernel
theorem dX12_init_772 : decode cX12_init 772 = .ok (.dup, 1) := by decide +kernel
theorem dX12_init_773 : decode cX12_init 773 = .ok (.bipush 121, 2) := by decide +kernel
theorem dX12_init_775 : decode cX12_init 775 = .ok (.bipush 32, 2) := by decide +kernel
theorem dX12_init_777 : decode cX12_init 777 = .ok (.bastore, 1) := by decide +kernel
theorem dX12_init_778 : decode cX12_init 778 = .ok (.dup, 1) := by decide +kernel
theorem dX12_init_779 : decode cX12_init 779 = .ok (.bipush 122, 2) := by decide +kernel
theorem dX12_init_781 : decode cX12_init 781 = .ok (.bipush 100, 2) := by decide +kernel
theorem dX12_init_783 : decode cX12_init 783 = .ok (.bastore, 1) := by decide +kernel
theorem dX12_init_784 : decode cX12_init 784 = .ok (.dup, 1) := by decide +kernel
theorem dX12_init_785 : decode cX12_init 785 = .ok (.bipush 123, 2) := by decide +kernel
theorem dX12_init_787 : decode cX12_init 787 = .ok (.bipush 97, 2) := by decide +kernel
theorem dX12_init_789 : decode cX12_init 789 = .ok (.bastore, 1) := by decide +kernel
theorem dX12_init_790 : decode cX12_init 790 = .ok (.dup, 1) := by decide +kernel
theorem dX12_init_791 : decode cX12_init 791 = .ok (.bipush 124, 2) := by decide +kernel
theorem dX12_init_793 : decode cX12_init 793 = .ok (.bipush 119, 2) := by decide +kernel
theorem dX12_init_795 : decode cX12_init 795 = .ok (.bastore, 1) := by decide +kernel
theorem dX12_init_796 : decode cX12_init 796 = .ok (.dup, 1) := by decide +kernel
theorem dX12_init_797 : decode cX12_init 797 = .ok (.bipush 125, 2) := by decide +kernel
theorem dX12_init_799 : decode cX12_init 799 = .ok (.bipush 110, 2) := by decide +kernel
theorem dX12_init_801 : decode cX12_init 801 = .ok (.bastore, 1) := by decide +kernel
theorem dX12_init_802 : decode cX12_init 802 = .ok (.dup, 1) := by decide +kernel
theorem dX12_init_803 : decode cX12_init 803 = .ok (.bipush 126, 2) := by decide +kernel
theorem dX12_init_805 : decode cX12_init 805 = .ok (.bipush 32, 2) := by decide +kernel
theorem dX12_init_807 : decode cX12_init 807 = .ok (.bastore, 1) := by decide +kernel
theorem dX12_init_808 : decode cX12_init 808 = .ok (.dup, 1) := by decide +kernel
theorem dX12_init_809 : decode cX12_init 809 = .ok (.bipush 127, 2) := by decide +kernel
theorem dX12_init_811 : decode cX12_init 811 = .ok (.bipush 116, 2) := by decide +kernel
theorem dX12_init_813 : decode cX12_init 813 = .ok (.bastore, 1) := by decide +kernel
theorem dX12_init_814 : decode cX12_init 814 = .ok (.dup, 1) := by decide +kernel
theorem dX12_init_815 : decode cX12_init 815 = .ok (.sipush 128, 3) := by decide +kernel
theorem dX12_init_818 : decode cX12_init 818 = .ok (.bipush 105, 2) := by decide +kernel
theorem dX12_init_820 : decode cX12_init 820 = .ok (.bastore, 1) := by decide +kernel
theorem dX12_init_821 : decode cX12_init 821 = .ok (.dup, 1) := by decide +kernel
theorem dX12_init_822 : decode cX12_init 822 = .ok (.sipush 129, 3) := by decide +kernel
theorem dX12_init_825 : decode cX12_init 825 = .ok (.bipush 109, 2) := by decide +kernel
theorem dX12_init_827 : decode cX12_init 827 = .ok (.bastore, 1) := by decide +kernel
theorem dX12_init_828 : decode cX12_init 828 = .ok (.dup, 1) := by decide +kernel
theorem dX12_init_829 : decode cX12_init 829 = .ok (.sipush 130, 3) := by decide +kernel
theorem dX12_init_832 : decode cX12_init 832 = .ok (.bipush 101, 2) := by decide +kernel
theorem dX12_init_834 : decode cX12_init 834 = .ok (.bastore, 1) := by decide +kernel
theorem dX12_init_835 : decode cX12_init 835 = .ok (.dup, 1) := by decide +kernel
theorem dX12_init_836 : decode cX12_init 836 = .ok (.sipush 131, 3) := by decide +kernel
theorem dX12_init_839 : decode cX12_init 839 = .ok (.bipush 115, 2) := by decide +kernel
theorem dX12_init_841 : decode cX12_init 841 = .ok (.bastore, 1) := by decide +kernel
theorem dX12_init_842 : decode cX12_init 842 = .ok (.dup, 1) := by decide +kernel
theorem dX12_init_843 : decode cX12_init 843 = .ok (.sipush 132, 3) := by decide +kernel
theorem dX12_init_846 : decode cX12_init 846 = .ok (.bipush 32, 2) := by decide +kernel
theorem dX12_init_848 : decode cX12_init 848 = .ok (.bastore, 1) := by decide +kernel
theorem dX12_init_849 : decode cX12_init 849 = .ok (.putfield 37, 3) := by decide +kernel
theorem dX12_init_852 : decode cX12_init 852 = .ok (.aload_n 0, 1) := by decide +kernel
theorem dX12_init_853 : decode cX12_init 853 = .ok (.sipush 400, 3) := by decide +kernel
theorem dX12_init_856 : decode cX12_init 856 = .ok (.newarray .byte, 2) := by decide +kernel
theorem dX12_init_858 : decode cX12_init 858 = .ok (.putfield 41, 3) := by decide +kernel
theorem dX12_init_861 : decode cX12_init 861 = .ok (.aload_n 0, 1) := by decide +kernel
theorem dX12_init_862 : decode cX12_init 862 = .ok (.iconst 5, 1) := by decide +kernel
theorem dX12_init_863 : decode cX12_init 863 = .ok (.newarray .int, 2) := by decide +kernel
theorem dX12_init_865 : decode cX12_init 865 = .ok (.putfield 44, 3) := by decide +kernel
theorem dX12_init_868 : decode cX12_init 868 = .ok (.aload_n 0, 1) := by decide +kernel
theorem dX12_init_869 : decode cX12_init 869 = .ok (.iconst (-1), 1) := by decide +kernel
theorem dX12_init_870 : decode cX12_init 870 = .ok (.putfield 47, 3) := by decide +kernel
theorem dX12_init_873 : decode cX12_init 873 = .ok (.aload_n 0, 1) := by decide +kernel
theorem dX12_init_874 : decode cX12_init 874 = .ok (.sipush 401, 3) := by decide +kernel
theorem dX12_init_877 : decode cX12_init 877 = .ok (.newarray .int, 2) := by decide +kernel
theorem dX12_init_879 : decode cX12_init 879 = .ok (.putfield 50, 3) := by decide +kernel
theorem dX12_init_882 : decode cX12_init 882 = .ok (.aload_n 0, 1) := by decide +kernel
theorem dX12_init_883 : decode cX12_init 883 = .ok (.sipush 401, 3) := by decide +kernel
theorem dX12_init_886 : decode cX12_init 886 = .ok (.newarray .int, 2) := by decide +kernel
theorem dX12_init_888 : decode cX12_init 888 = .ok (.putfield 53, 3) := by decide +kernel
theorem dX12_init_891 : decode cX12_init 891 = .ok (.aload_n 0, 1) := by decide +kernel
theorem dX12_init_892 : decode cX12_init 892 = .ok (.sipush 401, 3) := by decide +kernel
theorem dX12_init_895 : decode cX12_init 895 = .ok (.newarray .int, 2) := by decide +kernel
theorem dX12_init_897 : decode cX12_init 897 = .ok (.putfield 56, 3) := by decide +kernel
theorem dX12_init_900 : decode cX12_init 900 = .ok (.aload_n 0, 1) := by decide +kernel
theorem dX12_init_901 : decode cX12_init 901 = .ok (.bipush 8, 2) := by decide +kernel
theorem dX12_init_903 : decode cX12_init 903 = .ok (.newarray .int, 2) := by decide +kernel
theorem dX12_init_905 : decode cX12_init 905 = .ok (.putfield 59, 3) := by decide +kernel
theorem dX12_init_908 : decode cX12_init 908 = .ok (.aload_n 0, 1) := by decide +kernel
theorem dX12_init_909 : decode cX12_init 909 = .ok (.bipush 8, 2) := by decide +kernel
theorem dX12_init_911 : decode cX12_init 911 = .ok (.newarray .int, 2) := by decide +kernel
theorem dX12_init_913 : decode cX12_init 913 = .ok (.putfield 62, 3) := by decide +kernel
theorem dX12_init_916 : decode cX12_init 916 = .ok (.aload_n 0, 1) := by decide +kernel
theorem dX12_init_917 : decode cX12_init 917 = .ok (.bipush 8, 2) := by decide +kernel
theorem dX12_init_919 : decode cX12_init 919 = .ok (.newarray .int, 2) := by decide +kernel
theorem dX12_init_921 : decode cX12_init 921 = .ok (.putfield 65, 3) := by decide +kernel
theorem dX12_init_924 : decode cX12_init 924 = .ok (.aload_n 0, 1) := by decide +kernel
theorem dX12_init_925 : decode cX12_init 925 = .ok (.bipush 8, 2) := by decide +kernel
theorem dX12_init_927 : decode cX12_init 927 = .ok (.newarray .int, 2) := by decide +kernel
theorem dX12_init_929 : decode cX12_init 929 = .ok (.putfield 68, 3) := by decide +kernel
theorem dX12_init_932 : decode cX12_init 932 = .ok (.aload_n 0, 1) := by decide +kernel
theorem dX12_init_933 : decode cX12_init 933 = .ok (.bipush 8, 2) := by decide +kernel
theorem dX12_init_935 : decode cX12_init 935 = .ok (.newarray .int, 2) := by decide +kernel
theorem dX12_init_937 : decode cX12_init 937 = .ok (.putfield 71, 3) := by decide +kernel
theorem dX12_init_940 : decode cX12_init 940 = .ok (.aload_n 0, 1) := by decide +kernel
theorem dX12_init_941 : decode cX12_init 941 = .ok (.bipush 8, 2) := by decide +kernel
theorem dX12_init_943 : decode cX12_init 943 = .ok (.newarray .int, 2) := by decide +kernel
theorem dX12_init_945 : decode cX12_init 945 = .ok (.putfield 74, 3) := by decide +kernel
theorem dX12_init_948 : decode cX12_init 948 = .ok (.aload_n 0, 1) := by decide +kernel
theorem dX12_init_949 : decode cX12_init 949 = .ok (.bipush 8, 2) := by decide +kernel
theorem dX12_init_951 : decode cX12_init 951 = .ok (.newarray .int, 2) := by decide +kernel
theorem dX12_init_953 : decode cX12_init 953 = .ok (.putfield 77, 3) := by decide +kernel
theorem dX12_init_956 : decode cX12_init 956 = .ok (.aload_n 0, 1) := by decide +kernel
theorem dX12_init_957 : decode cX12_init 957 = .ok (.bipush 24, 2) := by decide +kernel
theorem dX12_init_959 : decode cX12_init 959 = .ok (.newarray .int, 2) := by decide +kernel
theorem dX12_init_961 : decode cX12_init 961 = .ok (.putfield 80, 3) := by decide +kernel
theorem dX12_init_964 : decode cX12_init 964 = .ok (.aload_n 0, 1) := by decide +kernel
theorem dX12_init_965 : decode cX12_init 965 = .ok (.bipush 24, 2) := by decide +kernel
theorem dX12_init_967 : decode cX12_init 967 = .ok (.newarray .int, 2) := by decide +kernel
theorem dX12_init_969 : decode cX12_init 969 = .ok (.putfield 83, 3) := by decide +kernel
theorem dX12_init_972 : decode cX12_init 972 = .ok (.aload_n 0, 1) := by decide +kernel
theorem dX12_init_973 : decode cX12_init 973 = .ok (.sipush 2736, 3) := by decide +kernel
theorem dX12_init_976 : decode cX12_init 976 = .ok (.newarray .int, 2) := by decide +kernel
theorem dX12_init_978 : decode cX12_init 978 = .ok (.putfield 86, 3) := by decide +kernel
theorem dX12_init_981 : decode cX12_init 981 = .ok (.aload_n 0, 1) := by decide +kernel
theorem dX12_init_982 : decode cX12_init 982 = .ok (.sipush 2736, 3) := by decide +kernel
theorem dX12_init_985 : decode cX12_init 985 = .ok (.newarray .int, 2) := by decide +kernel
theorem dX12_init_987 : decode cX12_init 987 = .ok (.putfield 89, 3) := by decide +kernel
theorem dX12_init_990 : decode cX12_init 990 = .ok (.aload_n 0, 1) := by decide +kernel
theorem dX12_init_991 : decode cX12_init 991 = .ok (.iconst 3, 1) := by decide +kernel
theorem dX12_init_992 : decode cX12_init 992 = .ok (.newarray .int, 2) := by decide +kernel
theorem dX12_init_994 : decode cX12_init 994 = .ok (.putfield 92, 3) := by decide +kernel
theorem dX12_init_997 : decode cX12_init 997 = .ok (.aload_n 0, 1) := by decide +kernel
theorem dX12_init_998 : decode cX12_init 998 = .ok (.bipush 8, 2) := by decide +kernel
theorem dX12_init_1000 : decode cX12_init 1000 = .ok (.newarray .int, 2) := by decide +kernel
theorem dX12_init_1002 : decode cX12_init 1002 = .ok (.putfield 95, 3) := by decide +kernel
theorem dX12_init_1005 : decode cX12_init 1005 = .ok (.aload_n 0, 1) := by decide +kernel
theorem dX12_init_1006 : decode cX12_init 1006 = .ok (.bipush 36, 2) := by decide +kernel
theorem dX12_init_1008 : decode cX12_init 1008 = .ok (.newarray .int, 2) := by decide +kernel
theorem dX12_init_1010 : decode cX12_init 1010 = .ok (.putfield 98, 3) := by decide +kernel
theorem dX12_init_1013 : decode cX12_init 1013 = .ok (.aload_n 0, 1) := by decide +kernel
theorem dX12_init_1014 : decode cX12_init 1014 = .ok (.bipush 6, 2) := by decide +kernel
theorem dX12_init_1016 : decode cX12_init 1016 = .ok (.newarray .int, 2) := by decide +kernel
theorem dX12_init_1018 : decode cX12_init 1018 = .ok (.putfield 101, 3) := by decide +kernel
theorem dX12_init_1021 : decode cX12_init 1021 = .ok (.aload_n 0, 1) := by decide +kernel
theorem dX12_init_1022 : decode cX12_init 1022 = .ok (.bipush 6, 2) := by decide +kernel
theorem dX12_init_1024 : decode cX12_init 1024 = .ok (.newarray .int, 2) := by decide +kernel
theorem dX12_init_1026 : decode cX12_init 1026 = .ok (.putfield 104, 3) := by decide +kernel
theorem dX12_init_1029 : decode cX12_init 1029 = .ok (.aload_n 0, 1) := by decide +kernel
theorem dX12_init_1030 : decode cX12_init 1030 = .ok (.bipush 6, 2) := by decide +kernel
theorem dX12_init_1032 : decode cX12_init 1032 = .ok (.newarray .int, 2) := by decide +kernel
theorem dX12_init_1034 : decode cX12_init 1034 = .ok (.putfield 107, 3) := by decide +kernel
theorem dX12_init_1037 : decode cX12_init 1037 = .ok (.aload_n 0, 1) := by decide +kernel
theorem dX12_init_1038 : decode cX12_init 1038 = .ok (.iconst (-1), 1) := by decide +kernel
theorem dX12_init_1039 : decode cX12_init 1039 = .ok (.putfield 110, 3) := by decide +kernel
theorem dX12_init_1042 : decode cX12_init 1042 = .ok (.aload_n 0, 1) := by decide +kernel
theorem dX12_init_1043 : decode cX12_init 1043 = .ok (.iconst 3, 1) := by decide +kernel
theorem dX12_init_1044 : decode cX12_init 1044 = .ok (.newarray .long, 2) := by decide +kernel
theorem dX12_init_1046 : decode cX12_init 1046 = .ok (.putfield 113, 3) := by decide +kernel
theorem dX12_init_1049 : decode cX12_init 1049 = .ok (.aload_n 0, 1) := by decide +kernel
theorem dX12_init_1050 : decode cX12_init 1050 = .ok (.bipush 6, 2) := by decide +kernel
theorem dX12_init_1052 : decode cX12_init 1052 = .ok (.newarray .int, 2) := by decide +kernel
theorem dX12_init_1054 : decode cX12_init 1054 = .ok (.putfield 117, 3) := by decide +kernel
theorem dX12_init_1057 : decode cX12_init 1057 = .ok (.aload_n 0, 1) := by decide +kernel
theorem dX12_init_1058 : decode cX12_init 1058 = .ok (.bipush 18, 2) := by decide +kernel
theorem dX12_init_1060 : decode cX12_init 1060 = .ok (.newarray .int, 2) := by decide +kernel
theorem dX12_init_1062 : decode cX12_init 1062 = .ok (.putfield 120, 3) := by decide +kernel
theorem dX12_init_1065 : decode cX12_init 1065 = .ok (.aload_n 0, 1) := by decide +kernel
theorem dX12_init_1066 : decode cX12_init 1066 = .ok (.getfield 24, 3) := by decide +kernel
theorem dX12_init_1069 : decode cX12_init 1069 = .ok (.sipush 360, 3) := by decide +kernel
theorem dX12_init_1072 : decode cX12_init 1072 = .ok (.iconst 1, 1) := by decide +kernel
theorem dX12_init_1073 : decode cX12_init 1073 = .ok (.iastore, 1) := by decide +kernel
theorem dX12_init_1074 : decode cX12_init 1074 = .ok (.aload_n 0, 1) := by decide +kernel
theorem dX12_init_1075 : decode cX12_init 1075 = .ok (.getfield 24, 3) := by decide +kernel
theorem dX12_init_1078 : decode cX12_init 1078 = .ok (.sipush 361, 3) := by decide +kernel
theorem dX12_init_1081 : decode cX12_init 1081 = .ok (.iconst 3, 1) := by decide +kernel
theorem dX12_init_1082 : decode cX12_init 1082 = .ok (.iastore, 1) := by decide +kernel
theorem dX12_init_1083 : decode cX12_init 1083 = .ok (.aload_n 0, 1) := by decide +kernel
theorem dX12_init_1084 : decode cX12_init 1084 = .ok (.getfield 24, 3) := by decide +kernel
theorem dX12_init_1087 : decode cX12_init 1087 = .ok (.sipush 369, 3) := by decide +kernel
theorem dX12_init_1090 : decode cX12_init 1090 = .ok (.iconst (-1), 1) := by decide +kernel
theorem dX12_init_1091 : decode cX12_init 1091 = .ok (.iastore, 1) := by decide +kernel
theorem dX12_init_1092 : decode cX12_init 1092 = .ok (.return_, 1) := by decide +kernel
theorem dX12_laysAside_0 : decode cX12_laysAside 0 = .ok (.iconst 0, 1) := by decide +kernel
theorem dX12_laysAside_1 : decode cX12_laysAside 1 = .ok (.istore_n 2, 1) := by decide +kernel
theorem dX12_laysAside_2 : decode cX12_laysAside 2 = .ok (.iload_n 2, 1) := by decide +kernel
theorem dX12_laysAside_3 : decode cX12_laysAside 3 = .ok (.sipush 170, 3) := by decide +kernel
theorem dX12_laysAside_6 : decode cX12_laysAside 6 = .ok (.if_icmp .ge 27, 3) := by decide +kernel
theorem dX12_laysAside_9 : decode cX12_laysAside 9 = .ok (.aload_n 0, 1) := by decide +kernel
theorem dX12_laysAside_10 : decode cX12_laysAside 10 = .ok (.getfield 34, 3) := by decide +kernel
theorem dX12_laysAside_13 : decode cX12_laysAside 13 = .ok (.sipush 170, 3) := by decide +kernel
theorem dX12_laysAside_16 : decode cX12_laysAside 16 = .ok (.iload_n 1, 1) := by decide +kernel
theorem dX12_laysAside_17 : decode cX12_laysAside 17 = .ok (.imul, 1) := by decide +kernel
theorem dX12_laysAside_18 : decode cX12_laysAside 18 = .ok (.iload_n 2, 1) := by decide +kernel
theorem dX12_laysAside_19 : decode cX12_laysAside 19 = .ok (.iadd, 1) := by decide +kernel
theorem dX12_laysAside_20 : decode cX12_laysAside 20 = .ok (.aload_n 0, 1) := by decide +kernel
theorem dX12_laysAside_21 : decode cX12_laysAside 21 = .ok (.getfield 24, 3) := by decide +kernel
theorem dX12_laysAside_24 : decode cX12_laysAside 24 = .ok (.iload_n 2, 1) := by decide +kernel
theorem dX12_laysAside_25 : decode cX12_laysAside 25 = .ok (.iaload, 1) := by decide +kernel
theorem dX12_laysAside_26 : decode cX12_laysAside 26 = .ok (.iastore, 1) := by decide +kernel
theorem dX12_laysAside_27 : decode cX12_laysAside 27 = .ok (.iinc 2 1, 3) := by decide +kernel
theorem dX12_laysAside_30 : decode cX12_laysAside 30 = .ok (.goto (-28), 3) := by decide +kernel
theorem dX12_laysAside_33 : decode cX12_laysAside 33 = .ok (.return_, 1) := by decide +kernel
theorem dX12_takesBack_0 : decode cX12_takesBack 0 = .ok (.iconst 0, 1) := by decide +kernel
theorem dX12_takesBack_1 : decode cX12_takesBack 1 = .ok (.istore_n 2, 1) := by decide +kernel
theorem dX12_takesBack_2 : decode cX12_takesBack 2 = .ok (.iload_n 2, 1) := by decide +kernel
theorem dX12_takesBack_3 : decode cX12_takesBack 3 = .ok (.sipush 170, 3) := by decide +kernel
theorem dX12_takesBack_6 : decode cX12_takesBack 6 = .ok (.if_icmp .ge 27, 3) := by decide +kernel
theorem dX12_takesBack_9 : decode cX12_takesBack 9 = .ok (.aload_n 0, 1) := by decide +kernel
theorem dX12_takesBack_10 : decode cX12_takesBack 10 = .ok (.getfield 24, 3) := by decide +kernel
theorem dX12_takesBack_13 : decode cX12_takesBack 13 = .ok (.iload_n 2, 1) := by decide +kernel
theorem dX12_takesBack_14 : decode cX12_takesBack 14 = .ok (.aload_n 0, 1) := by decide +kernel
theorem dX12_takesBack_15 : decode cX12_takesBack 15 = .ok (.getfield 34, 3) := by decide +kernel
theorem dX12_takesBack_18 : decode cX12_takesBack 18 = .ok (.sipush 170, 3) := by decide +kernel
theorem dX12_takesBack_21 : decode cX12_takesBack 21 = .ok (.iload_n 1, 1) := by decide +kernel
theorem dX12_takesBack_22 : decode cX12_takesBack 22 = .ok (.imul, 1) := by decide +kernel
theorem dX12_takesBack_23 : decode cX12_takesBack 23 = .ok (.iload_n 2, 1) := by decide +kernel
theorem dX12_takesBack_24 : decode cX12_takesBack 24 = .ok (.iadd, 1) := by decide +kernel
theorem dX12_takesBack_25 : decode cX12_takesBack 25 = .ok (.iaload, 1) := by decide +kernel
theorem dX12_takesBack_26 : decode cX12_takesBack 26 = .ok (.iastore, 1) := by decide +kernel
theorem dX12_takesBack_27 : decode cX12_takesBack 27 = .ok (.iinc 2 1, 3) := by decide +kernel
theorem dX12_takesBack_30 : decode cX12_takesBack 30 = .ok (.goto (-28), 3) := by decide +kernel
theorem dX12_takesBack_33 : decode cX12_takesBack 33 = .ok (.return_, 1) := by decide +kernel
theorem dX12_image_0 : decode cX12_image 0 = .ok (.iload_n 1, 1) := by decide +kernel
theorem dX12_image_1 : decode cX12_image 1 = .ok (.iconst 0, 1) := by decide +kernel
theorem dX12_image_2 : decode cX12_image 2 = .ok (.iconst 1, 1) := by decide +kernel
theorem dX12_image_3 : decode cX12_image 3 = .ok (.invokestatic 123, 3) := by decide +kernel
theorem dX12_image_6 : decode cX12_image 6 = .ok (.ifCond .ne 9, 3) := by decide +kernel
theorem dX12_image_9 : decode cX12_image 9 = .ok (.aload_n 0, 1) := by decide +kernel
theorem dX12_image_10 : decode cX12_image 10 = .ok (.iconst (-1), 1) := by decide +kernel
theorem dX12_image_11 : decode cX12_image 11 = .ok (.invokevirtual 127, 3) := by decide +kernel
theorem dX12_image_14 : decode cX12_image 14 = .ok (.ireturn, 1) := by decide +kernel
theorem dX12_image_15 : decode cX12_image 15 = .ok (.iconst 0, 1) := by decide +kernel
theorem dX12_image_16 : decode cX12_image 16 = .ok (.istore_n 2, 1) := by decide +kernel
theorem dX12_image_17 : decode cX12_image 17 = .ok (.iload_n 2, 1) := by decide +kernel
theorem dX12_image_18 : decode cX12_image 18 = .ok (.sipush 5977, 3) := by decide +kernel
theorem dX12_image_21 : decode cX12_image 21 = .ok (.if_icmp .ge 27, 3) := by decide +kernel
theorem dX12_image_24 : decode cX12_image 24 = .ok (.aload_n 0, 1) := by decide +kernel
theorem dX12_image_25 : decode cX12_image 25 = .ok (.getfield 27, 3) := by decide +kernel
theorem dX12_image_28 : decode cX12_image 28 = .ok (.sipush 5977, 3) := by decide +kernel
theorem dX12_image_31 : decode cX12_image 31 = .ok (.iload_n 1, 1) := by decide +kernel
theorem dX12_image_32 : decode cX12_image 32 = .ok (.imul, 1) := by decide +kernel
theorem dX12_image_33 : decode cX12_image 33 = .ok (.iload_n 2, 1) := by decide +kernel
theorem dX12_image_34 : decode cX12_image 34 = .ok (.iadd, 1) := by decide +kernel
theorem dX12_image_35 : decode cX12_image 35 = .ok (.aload_n 0, 1) := by decide +kernel
theorem dX12_image_36 : decode cX12_image 36 = .ok (.getfield 24, 3) := by decide +kernel
theorem dX12_image_39 : decode cX12_image 39 = .ok (.iload_n 2, 1) := by decide +kernel
theorem dX12_image_40 : decode cX12_image 40 = .ok (.iaload, 1) := by decide +kernel
theorem dX12_image_41 : decode cX12_image 41 = .ok (.iastore, 1) := by decide +kernel
theorem dX12_image_42 : decode cX12_image 42 = .ok (.iinc 2 1, 3) := by decide +kernel
theorem dX12_image_45 : decode cX12_image 45 = .ok (.goto (-28), 3) := by decide +kernel
theorem dX12_image_48 : decode cX12_image 48 = .ok (.aload_n 0, 1) := by decide +kernel
theorem dX12_image_49 : decode cX12_image 49 = .ok (.getfield 30, 3) := by decide +kernel
theorem dX12_image_52 : decode cX12_image 52 = .ok (.iload_n 1, 1) := by decide +kernel
theorem dX12_image_53 : decode cX12_image 53 = .ok (.iconst 1, 1) := by decide +kernel
theorem dX12_image_54 : decode cX12_image 54 = .ok (.bastore, 1) := by decide +kernel
theorem dX12_image_55 : decode cX12_image 55 = .ok (.aload_n 0, 1) := by decide +kernel
theorem dX12_image_56 : decode cX12_image 56 = .ok (.iconst 0, 1) := by decide +kernel
theorem dX12_image_57 : decode cX12_image 57 = .ok (.invokevirtual 14, 3) := by decide +kernel
theorem dX12_image_60 : decode cX12_image 60 = .ok (.ireturn, 1) := by decide +kernel
theorem dX12_back_0 : decode cX12_back 0 = .ok (.iload_n 1, 1) := by decide +kernel
theorem dX12_back_1 : decode cX12_back 1 = .ok (.iconst 0, 1) := by decide +kernel
theorem dX12_back_2 : decode cX12_back 2 = .ok (.iconst 1, 1) := by decide +kernel
theorem dX12_back_3 : decode cX12_back 3 = .ok (.invokestatic 123, 3) := by decide +kernel
theorem dX12_back_6 : decode cX12_back 6 = .ok (.ifCond .ne 9, 3) := by decide +kernel
theorem dX12_back_9 : decode cX12_back 9 = .ok (.aload_n 0, 1) := by decide +kernel
theorem dX12_back_10 : decode cX12_back 10 = .ok (.iconst (-1), 1) := by decide +kernel
theorem dX12_back_11 : decode cX12_back 11 = .ok (.invokevirtual 127, 3) := by decide +kernel
theorem dX12_back_14 : decode cX12_back 14 = .ok (.ireturn, 1) := by decide +kernel
theorem dX12_back_15 : decode cX12_back 15 = .ok (.aload_n 0, 1) := by decide +kernel
theorem dX12_back_16 : decode cX12_back 16 = .ok (.getfield 30, 3) := by decide +kernel
theorem dX12_back_19 : decode cX12_back 19 = .ok (.iload_n 1, 1) := by decide +kernel
theorem dX12_back_20 : decode cX12_back 20 = .ok (.baload, 1) := by decide +kernel
theorem dX12_back_21 : decode cX12_back 21 = .ok (.ifCond .ne 10, 3) := by decide +kernel
theorem dX12_back_24 : decode cX12_back 24 = .ok (.aload_n 0, 1) := by decide +kernel
theorem dX12_back_25 : decode cX12_back 25 = .ok (.bipush (-2), 2) := by decide +kernel
theorem dX12_back_27 : decode cX12_back 27 = .ok (.invokevirtual 127, 3) := by decide +kernel
theorem dX12_back_30 : decode cX12_back 30 = .ok (.ireturn, 1) := by decide +kernel
theorem dX12_back_31 : decode cX12_back 31 = .ok (.iconst 0, 1) := by decide +kernel
theorem dX12_back_32 : decode cX12_back 32 = .ok (.istore_n 2, 1) := by decide +kernel
theorem dX12_back_33 : decode cX12_back 33 = .ok (.iload_n 2, 1) := by decide +kernel
theorem dX12_back_34 : decode cX12_back 34 = .ok (.sipush 5977, 3) := by decide +kernel
theorem dX12_back_37 : decode cX12_back 37 = .ok (.if_icmp .ge 27, 3) := by decide +kernel
theorem dX12_back_40 : decode cX12_back 40 = .ok (.aload_n 0, 1) := by decide +kernel
theorem dX12_back_41 : decode cX12_back 41 = .ok (.getfield 24, 3) := by decide +kernel
theorem dX12_back_44 : decode cX12_back 44 = .ok (.iload_n 2, 1) := by decide +kernel
theorem dX12_back_45 : decode cX12_back 45 = .ok (.aload_n 0, 1) := by decide +kernel
theorem dX12_back_46 : decode cX12_back 46 = .ok (.getfield 27, 3) := by decide +kernel
theorem dX12_back_49 : decode cX12_back 49 = .ok (.sipush 5977, 3) := by decide +kernel
theorem dX12_back_52 : decode cX12_back 52 = .ok (.iload_n 1, 1) := by decide +kernel
theorem dX12_back_53 : decode cX12_back 53 = .ok (.imul, 1) := by decide +kernel
theorem dX12_back_54 : decode cX12_back 54 = .ok (.iload_n 2, 1) := by decide +kernel
theorem dX12_back_55 : decode cX12_back 55 = .ok (.iadd, 1) := by decide +kernel
theorem dX12_back_56 : decode cX12_back 56 = .ok (.iaload, 1) := by decide +kernel
theorem dX12_back_57 : decode cX12_back 57 = .ok (.iastore, 1) := by decide +kernel
theorem dX12_back_58 : decode cX12_back 58 = .ok (.iinc 2 1, 3) := by decide +kernel
theorem dX12_back_61 : decode cX12_back 61 = .ok (.goto (-28), 3) := by decide +kernel
theorem dX12_back_64 : decode cX12_back 64 = .ok (.aload_n 0, 1) := by decide +kernel
theorem dX12_back_65 : decode cX12_back 65 = .ok (.iconst 0, 1) := by decide +kernel
theorem dX12_back_66 : decode cX12_back 66 = .ok (.invokevirtual 130, 3) := by decide +kernel
theorem dX12_back_69 : decode cX12_back 69 = .ok (.ireturn, 1) := by decide +kernel
theorem dX12_prayers_0 : decode cX12_prayers 0 = .ok (.aload_n 0, 1) := by decide +kernel
theorem dX12_prayers_1 : decode cX12_prayers 1 = .ok (.getfield 24, 3) := by decide +kernel
theorem dX12_prayers_4 : decode cX12_prayers 4 = .ok (.sipush 168, 3) := by decide +kernel
theorem dX12_prayers_7 : decode cX12_prayers 7 = .ok (.iaload, 1) := by decide +kernel
theorem dX12_prayers_8 : decode cX12_prayers 8 = .ok (.ireturn, 1) := by decide +kernel
theorem dX12_isWord_0 : decode cX12_isWord 0 = .ok (.iload_n 1, 1) := by decide +kernel
theorem dX12_isWord_1 : decode cX12_isWord 1 = .ok (.iconst 0, 1) := by decide +kernel
theorem dX12_isWord_2 : decode cX12_isWord 2 = .ok (.aload_n 0, 1) := by decide +kernel
theorem dX12_isWord_3 : decode cX12_isWord 3 = .ok (.getfield 24, 3) := by decide +kernel
theorem dX12_isWord_6 : decode cX12_isWord 6 = .ok (.sipush 363, 3) := by decide +kernel
theorem dX12_isWord_9 : decode cX12_isWord 9 = .ok (.iaload, 1) := by decide +kernel
theorem dX12_isWord_10 : decode cX12_isWord 10 = .ok (.iconst 1, 1) := by decide +kernel
theorem dX12_isWord_11 : decode cX12_isWord 11 = .ok (.isub, 1) := by decide +kernel
theorem dX12_isWord_12 : decode cX12_isWord 12 = .ok (.invokestatic 123, 3) := by decide +kernel
theorem dX12_isWord_15 : decode cX12_isWord 15 = .ok (.ireturn, 1) := by decide +kernel
theorem dX12_isThing_0 : decode cX12_isThing 0 = .ok (.iload_n 0, 1) := by decide +kernel
theorem dX12_isThing_1 : decode cX12_isThing 1 = .ok (.iconst 0, 1) := by decide +kernel
theorem dX12_isThing_2 : decode cX12_isThing 2 = .ok (.bipush 7, 2) := by decide +kernel
theorem dX12_isThing_4 : decode cX12_isThing 4 = .ok (.invokestatic 123, 3) := by decide +kernel
theorem dX12_isThing_7 : decode cX12_isThing 7 = .ok (.ireturn, 1) := by decide +kernel
theorem dX12_isPerson_0 : decode cX12_isPerson 0 = .ok (.iload_n 1, 1) := by decide +kernel
theorem dX12_isPerson_1 : decode cX12_isPerson 1 = .ok (.iconst 0, 1) := by decide +kernel
theorem dX12_isPerson_2 : decode cX12_isPerson 2 = .ok (.aload_n 0, 1) := by decide +kernel
theorem dX12_isPerson_3 : decode cX12_isPerson 3 = .ok (.getfield 24, 3) := by decide +kernel
theorem dX12_isPerson_6 : decode cX12_isPerson 6 = .ok (.sipush 365, 3) := by decide +kernel
theorem dX12_isPerson_9 : decode cX12_isPerson 9 = .ok (.iaload, 1) := by decide +kernel
theorem dX12_isPerson_10 : decode cX12_isPerson 10 = .ok (.iconst 1, 1) := by decide +kernel
theorem dX12_isPerson_11 : decode cX12_isPerson 11 = .ok (.isub, 1) := by decide +kernel
theorem dX12_isPerson_12 : decode cX12_isPerson 12 = .ok (.invokestatic 123, 3) := by decide +kernel
theorem dX12_isPerson_15 : decode cX12_isPerson 15 = .ok (.ireturn, 1) := by decide +kernel
theorem dX12_isPrayer_0 : decode cX12_isPrayer 0 = .ok (.iload_n 1, 1) := by decide +kernel
theorem dX12_isPrayer_1 : decode cX12_isPrayer 1 = .ok (.iconst 0, 1) := by decide +kernel
theorem dX12_isPrayer_2 : decode cX12_isPrayer 2 = .ok (.aload_n 0, 1) := by decide +kernel
theorem dX12_isPrayer_3 : decode cX12_isPrayer 3 = .ok (.invokevirtual 133, 3) := by decide +kernel
theorem dX12_isPrayer_6 : decode cX12_isPrayer 6 = .ok (.iconst 1, 1) := by decide +kernel
theorem dX12_isPrayer_7 : decode cX12_isPrayer 7 = .ok (.isub, 1) := by decide +kernel
theorem dX12_isPrayer_8 : decode cX12_isPrayer 8 = .ok (.invokestatic 123, 3) := by decide +kernel
theorem dX12_isPrayer_11 : decode cX12_isPrayer 11 = .ok (.ireturn, 1) := by decide +kernel
theorem dX12_fact_0 : decode cX12_fact 0 = .ok (.aload_n 0, 1) := by decide +kernel
theorem dX12_fact_1 : decode cX12_fact 1 = .ok (.getfield 24, 3) := by decide +kernel
theorem dX12_fact_4 : decode cX12_fact 4 = .ok (.iconst 0, 1) := by decide +kernel
theorem dX12_fact_5 : decode cX12_fact 5 = .ok (.bipush 7, 2) := by decide +kernel
theorem dX12_fact_7 : decode cX12_fact 7 = .ok (.iload_n 1, 1) := by decide +kernel
theorem dX12_fact_8 : decode cX12_fact 8 = .ok (.imul, 1) := by decide +kernel
theorem dX12_fact_9 : decode cX12_fact 9 = .ok (.iadd, 1) := by decide +kernel
theorem dX12_fact_10 : decode cX12_fact 10 = .ok (.iload_n 2, 1) := by decide +kernel
theorem dX12_fact_11 : decode cX12_fact 11 = .ok (.iadd, 1) := by decide +kernel
theorem dX12_fact_12 : decode cX12_fact 12 = .ok (.iaload, 1) := by decide +kernel
theorem dX12_fact_13 : decode cX12_fact 13 = .ok (.ireturn, 1) := by decide +kernel
theorem dX12_isWaiting_0 : decode cX12_isWaiting 0 = .ok (.aload_n 0, 1) := by decide +kernel
theorem dX12_isWaiting_1 : decode cX12_isWaiting 1 = .ok (.iload_n 1, 1) := by decide +kernel
theorem dX12_isWaiting_2 : decode cX12_isWaiting 2 = .ok (.invokevirtual 137, 3) := by decide +kernel
theorem dX12_isWaiting_5 : decode cX12_isWaiting 5 = .ok (.ifCond .eq 16, 3) := by decide +kernel
theorem dX12_isWaiting_8 : decode cX12_isWaiting 8 = .ok (.aload_n 0, 1) := by decide +kernel
theorem dX12_isWaiting_9 : decode cX12_isWaiting 9 = .ok (.iload_n 1, 1) := by decide +kernel
theorem dX12_isWaiting_10 : decode cX12_isWaiting 10 = .ok (.iconst 5, 1) := by decide +kernel
theorem dX12_isWaiting_11 : decode cX12_isWaiting 11 = .ok (.invokevirtual 141, 3) := by decide +kernel
theorem dX12_isWaiting_14 : decode cX12_isWaiting 14 = .ok (.ifCond .ne 7, 3) := by decide +kernel
theorem dX12_isWaiting_17 : decode cX12_isWaiting 17 = .ok (.iconst 1, 1) := by decide +kernel
theorem dX12_isWaiting_18 : decode cX12_isWaiting 18 = .ok (.goto 4, 3) := by decide +kernel
theorem dX12_isWaiting_21 : decode cX12_isWaiting 21 = .ok (.iconst 0, 1) := by decide +kernel
theorem dX12_isWaiting_22 : decode cX12_isWaiting 22 = .ok (.ireturn, 1) := by decide +kernel
theorem dX12_word_0 : decode cX12_word 0 = .ok (.iload_n 1, 1) := by decide +kernel
theorem dX12_word_1 : decode cX12_word 1 = .ok (.iconst 1, 1) := by decide +kernel
theorem dX12_word_2 : decode cX12_word 2 = .ok (.bipush 9, 2) := by decide +kernel
theorem dX12_word_4 : decode cX12_word 4 = .ok (.invokestatic 123, 3) := by decide +kernel
theorem dX12_word_7 : decode cX12_word 7 = .ok (.ifCond .ne 9, 3) := by decide +kernel
theorem dX12_word_10 : decode cX12_word 10 = .ok (.aload_n 0, 1) := by decide +kernel
theorem dX12_word_11 : decode cX12_word 11 = .ok (.iconst (-1), 1) := by decide +kernel
theorem dX12_word_12 : decode cX12_word 12 = .ok (.invokevirtual 127, 3) := by decide +kernel
theorem dX12_word_15 : decode cX12_word 15 = .ok (.ireturn, 1) := by decide +kernel
theorem dX12_word_16 : decode cX12_word 16 = .ok (.aload_n 0, 1) := by decide +kernel
theorem dX12_word_17 : decode cX12_word 17 = .ok (.getfield 24, 3) := by decide +kernel
theorem dX12_word_20 : decode cX12_word 20 = .ok (.sipush 363, 3) := by decide +kernel
theorem dX12_word_23 : decode cX12_word 23 = .ok (.iaload, 1) := by decide +kernel
theorem dX12_word_24 : decode cX12_word 24 = .ok (.istore_n 2, 1) := by decide +kernel
theorem dX12_word_25 : decode cX12_word 25 = .ok (.iload_n 2, 1) := by decide +kernel
theorem dX12_word_26 : decode cX12_word 26 = .ok (.bipush 10, 2) := by decide +kernel
theorem dX12_word_28 : decode cX12_word 28 = .ok (.if_icmp .ne 10, 3) := by decide +kernel
theorem dX12_word_31 : decode cX12_word 31 = .ok (.aload_n 0, 1) := by decide +kernel
theorem dX12_word_32 : decode cX12_word 32 = .ok (.bipush (-5), 2) := by decide +kernel
theorem dX12_word_34 : decode cX12_word 34 = .ok (.invokevirtual 127, 3) := by decide +kernel
theorem dX12_word_37 : decode cX12_word 37 = .ok (.ireturn, 1) := by decide +kernel
theorem dX12_word_38 : decode cX12_word 38 = .ok (.aload_n 0, 1) := by decide +kernel
theorem dX12_word_39 : decode cX12_word 39 = .ok (.getfield 24, 3) := by decide +kernel
theorem dX12_word_42 : decode cX12_word 42 = .ok (.sipush 170, 3) := by decide +kernel
theorem dX12_word_45 : decode cX12_word 45 = .ok (.iload_n 2, 1) := by decide +kernel
theorem dX12_word_46 : decode cX12_word 46 = .ok (.iadd, 1) := by decide +kernel
theorem dX12_word_47 : decode cX12_word 47 = .ok (.iload_n 1, 1) := by decide +kernel
theorem dX12_word_48 : decode cX12_word 48 = .ok (.iastore, 1) := by decide +kernel
theorem dX12_word_49 : decode cX12_word 49 = .ok (.aload_n 0, 1) := by decide +kernel
theorem dX12_word_50 : decode cX12_word 50 = .ok (.getfield 24, 3) := by decide +kernel
theorem dX12_word_53 : decode cX12_word 53 = .ok (.sipush 363, 3) := by decide +kernel
theorem dX12_word_56 : decode cX12_word 56 = .ok (.dup2, 1) := by decide +kernel
theorem dX12_word_57 : decode cX12_word 57 = .ok (.iaload, 1) := by decide +kernel
theorem dX12_word_58 : decode cX12_word 58 = .ok (.iconst 1, 1) := by decide +kernel
theorem dX12_word_59 : decode cX12_word 59 = .ok (.iadd, 1) := by decide +kernel
theorem dX12_word_60 : decode cX12_word 60 = .ok (.iastore, 1) := by decide +kernel
theorem dX12_word_61 : decode cX12_word 61 = .ok (.aload_n 0, 1) := by decide +kernel
theorem dX12_word_62 : decode cX12_word 62 = .ok (.iload_n 2, 1) := by decide +kernel
theorem dX12_word_63 : decode cX12_word 63 = .ok (.invokevirtual 14, 3) := by decide +kernel
theorem dX12_word_66 : decode cX12_word 66 = .ok (.ireturn, 1) := by decide +kernel
theorem dX12_lengthOf_0 : decode cX12_lengthOf 0 = .ok (.aload_n 0, 1) := by decide +kernel
theorem dX12_lengthOf_1 : decode cX12_lengthOf 1 = .ok (.iload_n 1, 1) := by decide +kernel
theorem dX12_lengthOf_2 : decode cX12_lengthOf 2 = .ok (.invokevirtual 145, 3) := by decide +kernel
theorem dX12_lengthOf_5 : decode cX12_lengthOf 5 = .ok (.ifCond .eq 16, 3) := by decide +kernel
theorem dX12_lengthOf_8 : decode cX12_lengthOf 8 = .ok (.aload_n 0, 1) := by decide +kernel
theorem dX12_lengthOf_9 : decode cX12_lengthOf 9 = .ok (.getfield 24, 3) := by decide +kernel
theorem dX12_lengthOf_12 : decode cX12_lengthOf 12 = .ok (.sipush 170, 3) := by decide +kernel
theorem dX12_lengthOf_15 : decode cX12_lengthOf 15 = .ok (.iload_n 1, 1) := by decide +kernel
theorem dX12_lengthOf_16 : decode cX12_lengthOf 16 = .ok (.iadd, 1) := by decide +kernel
theorem dX12_lengthOf_17 : decode cX12_lengthOf 17 = .ok (.iaload, 1) := by decide +kernel
theorem dX12_lengthOf_18 : decode cX12_lengthOf 18 = .ok (.goto 4, 3) := by decide +kernel
theorem dX12_lengthOf_21 : decode cX12_lengthOf 21 = .ok (.iconst (-1), 1) := by decide +kernel
theorem dX12_lengthOf_22 : decode cX12_lengthOf 22 = .ok (.ireturn, 1) := by decide +kernel
theorem dX12_isPart_0 : decode cX12_isPart 0 = .ok (.iload_n 0, 1) := by decide +kernel
theorem dX12_isPart_1 : decode cX12_isPart 1 = .ok (.iconst 0, 1) := by decide +kernel
theorem dX12_isPart_2 : decode cX12_isPart 2 = .ok (.bipush 17, 2) := by decide +kernel
theorem dX12_isPart_4 : decode cX12_isPart 4 = .ok (.invokestatic 123, 3) := by decide +kernel
theorem dX12_isPart_7 : decode cX12_isPart 7 = .ok (.ireturn, 1) := by decide +kernel
theorem dX12_isThere_0 : decode cX12_isThere 0 = .ok (.iload_n 1, 1) := by decide +kernel
theorem dX12_isThere_1 : decode cX12_isThere 1 = .ok (.iconst (-1), 1) := by decide +kernel
theorem dX12_isThere_2 : decode cX12_isThere 2 = .ok (.if_icmp .eq 17, 3) := by decide +kernel
theorem dX12_isThere_5 : decode cX12_isThere 5 = .ok (.iload_n 1, 1) := by decide +kernel
theorem dX12_isThere_6 : decode cX12_isThere 6 = .ok (.bipush 9, 2) := by decide +kernel
theorem dX12_isThere_8 : decode cX12_isThere 8 = .ok (.if_icmp .gt 11, 3) := by decide +kernel
theorem dX12_isThere_11 : decode cX12_isThere 11 = .ok (.aload_n 0, 1) := by decide +kernel
theorem dX12_isThere_12 : decode cX12_isThere 12 = .ok (.iload_n 1, 1) := by decide +kernel
theorem dX12_isThere_13 : decode cX12_isThere 13 = .ok (.invokevirtual 145, 3) := by decide +kernel
theorem dX12_isThere_16 : decode cX12_isThere 16 = .ok (.ifCond .eq 7, 3) := by decide +kernel
theorem dX12_isThere_19 : decode cX12_isThere 19 = .ok (.iconst 1, 1) := by decide +kernel
theorem dX12_isThere_20 : decode cX12_isThere 20 = .ok (.goto 4, 3) := by decide +kernel
theorem dX12_isThere_23 : decode cX12_isThere 23 = .ok (.iconst 0, 1) := by decide +kernel
theorem dX12_isThere_24 : decode cX12_isThere 24 = .ok (.ireturn, 1) := by decide +kernel
theorem dX12_rule_0 : decode cX12_rule 0 = .ok (.iload_n 1, 1) := by decide +kernel
theorem dX12_rule_1 : decode cX12_rule 1 = .ok (.invokestatic 148, 3) := by decide +kernel
theorem dX12_rule_4 : decode cX12_rule 4 = .ok (.ifCond .eq 41, 3) := by decide +kernel
theorem dX12_rule_7 : decode cX12_rule 7 = .ok (.iload_n 2, 1) := by decide +kernel
theorem dX12_rule_8 : decode cX12_rule 8 = .ok (.invokestatic 151, 3) := by decide +kernel
theorem dX12_rule_11 : decode cX12_rule 11 = .ok (.ifCond .eq 34, 3) := by decide +kernel
theorem dX12_rule_14 : decode cX12_rule 14 = .ok (.iload_n 3, 1) := by decide +kernel
theorem dX12_rule_15 : decode cX12_rule 15 = .ok (.iconst (-1), 1) := by decide +kernel
theorem dX12_rule_16 : decode cX12_rule 16 = .ok (.if_icmp .eq 10, 3) := by decide +kernel
theorem dX12_rule_19 : decode cX12_rule 19 = .ok (.iload_n 3, 1) := by decide +kernel
theorem dX12_rule_20 : decode cX12_rule 20 = .ok (.invokestatic 151, 3) := by decide +kernel
theorem dX12_rule_23 : decode cX12_rule 23 = .ok (.ifCond .eq 22, 3) := by decide +kernel
theorem dX12_rule_26 : decode cX12_rule 26 = .ok (.iload 4, 2) := by decide +kernel
theorem dX12_rule_28 : decode cX12_rule 28 = .ok (.iconst (-1), 1) := by decide +kernel
theorem dX12_rule_29 : decode cX12_rule 29 = .ok (.if_icmp .eq 22, 3) := by decide +kernel
theorem dX12_rule_32 : decode cX12_rule 32 = .ok (.iload_n 3, 1) := by decide +kernel
theorem dX12_rule_33 : decode cX12_rule 33 = .ok (.iconst (-1), 1) := by decide +kernel
theorem dX12_rule_34 : decode cX12_rule 34 = .ok (.if_icmp .eq 11, 3) := by decide +kernel
theorem dX12_rule_37 : decode cX12_rule 37 = .ok (.iload 4, 2) := by decide +kernel
theorem dX12_rule_39 : decode cX12_rule 39 = .ok (.invokestatic 151, 3) := by decide +kernel
theorem dX12_rule_42 : decode cX12_rule 42 = .ok (.ifCond .ne 9, 3) := by decide +kernel
theorem dX12_rule_45 : decode cX12_rule 45 = .ok (.aload_n 0, 1) := by decide +kernel
theorem dX12_rule_46 : decode cX12_rule 46 = .ok (.iconst (-1), 1) := by decide +kernel
theorem dX12_rule_47 : decode cX12_rule 47 = .ok (.invokevirtual 127, 3) := by decide +kernel
theorem dX12_rule_50 : decode cX12_rule 50 = .ok (.ireturn, 1) := by decide +kernel
theorem dX12_rule_51 : decode cX12_rule 51 = .ok (.aload_n 0, 1) := by decide +kernel
theorem dX12_rule_52 : decode cX12_rule 52 = .ok (.iload_n 2, 1) := by decide +kernel
theorem dX12_rule_53 : decode cX12_rule 53 = .ok (.invokevirtual 154, 3) := by decide +kernel
theorem dX12_rule_56 : decode cX12_rule 56 = .ok (.ifCond .eq 20, 3) := by decide +kernel
theorem dX12_rule_59 : decode cX12_rule 59 = .ok (.aload_n 0, 1) := by decide +kernel
theorem dX12_rule_60 : decode cX12_rule 60 = .ok (.iload_n 3, 1) := by decide +kernel
theorem dX12_rule_61 : decode cX12_rule 61 = .ok (.invokevirtual 154, 3) := by decide +kernel
theorem dX12_rule_64 : decode cX12_rule 64 = .ok (.ifCond .eq 12, 3) := by decide +kernel
theorem dX12_rule_67 : decode cX12_rule 67 = .ok (.aload_n 0, 1) := by decide +kernel
theorem dX12_rule_68 : decode cX12_rule 68 = .ok (.iload 4, 2) := by decide +kernel
theorem dX12_rule_70 : decode cX12_rule 70 = .ok (.invokevirtual 154, 3) := by decide +kernel
theorem dX12_rule_73 : decode cX12_rule 73 = .ok (.ifCond .ne 10, 3) := by decide +kernel
theorem dX12_rule_76 : decode cX12_rule 76 = .ok (.aload_n 0, 1) := by decide +kernel
theorem dX12_rule_77 : decode cX12_rule 77 = .ok (.bipush (-2), 2) := by decide +kernel
theorem dX12_rule_79 : decode cX12_rule 79 = .ok (.invokevirtual 127, 3) := by decide +kernel
theorem dX12_rule_82 : decode cX12_rule 82 = .ok (.ireturn, 1) := by decide +kernel
theorem dX12_rule_83 : decode cX12_rule 83 = .ok (.aload_n 0, 1) := by decide +kernel
theorem dX12_rule_84 : decode cX12_rule 84 = .ok (.getfield 24, 3) := by decide +kernel
theorem dX12_rule_87 : decode cX12_rule 87 = .ok (.sipush 364, 3) := by decide +kernel
theorem dX12_rule_90 : decode cX12_rule 90 = .ok (.iaload, 1) := by decide +kernel
theorem dX12_rule_91 : decode cX12_rule 91 = .ok (.istore 5, 2) := by decide +kernel
theorem dX12_rule_93 : decode cX12_rule 93 = .ok (.iload 5, 2) := by decide +kernel
theorem dX12_rule_95 : decode cX12_rule 95 = .ok (.bipush 16, 2) := by decide +kernel
theorem dX12_rule_97 : decode cX12_rule 97 = .ok (.if_icmp .ne 10, 3) := by decide +kernel
theorem dX12_rule_100 : decode cX12_rule 100 = .ok (.aload_n 0, 1) := by decide +kernel
theorem dX12_rule_101 : decode cX12_rule 101 = .ok (.bipush (-5), 2) := by decide +kernel
theorem dX12_rule_103 : decode cX12_rule 103 = .ok (.invokevirtual 127, 3) := by decide +kernel
theorem dX12_rule_106 : decode cX12_rule 106 = .ok (.ireturn, 1) := by decide +kernel
theorem dX12_rule_107 : decode cX12_rule 107 = .ok (.aload_n 0, 1) := by decide +kernel
theorem dX12_rule_108 : decode cX12_rule 108 = .ok (.getfield 24, 3) := by decide +kernel
theorem dX12_rule_111 : decode cX12_rule 111 = .ok (.sipush 180, 3) := by decide +kernel
theorem dX12_rule_114 : decode cX12_rule 114 = .ok (.iconst 4, 1) := by decide +kernel
theorem dX12_rule_115 : decode cX12_rule 115 = .ok (.iload 5, 2) := by decide +kernel
theorem dX12_rule_117 : decode cX12_rule 117 = .ok (.imul, 1) := by decide +kernel
theorem dX12_rule_118 : decode cX12_rule 118 = .ok (.iadd, 1) := by decide +kernel
theorem dX12_rule_119 : decode cX12_rule 119 = .ok (.iload_n 1, 1) := by decide +kernel
theorem dX12_rule_120 : decode cX12_rule 120 = .ok (.iastore, 1) := by decide +kernel
theorem dX12_rule_121 : decode cX12_rule 121 = .ok (.aload_n 0, 1) := by decide +kernel
theorem dX12_rule_122 : decode cX12_rule 122 = .ok (.getfield 24, 3) := by decide +kernel
theorem dX12_rule_125 : decode cX12_rule 125 = .ok (.sipush 180, 3) := by decide +kernel
theorem dX12_rule_128 : decode cX12_rule 128 = .ok (.iconst 4, 1) := by decide +kernel
theorem dX12_rule_129 : decode cX12_rule 129 = .ok (.iload 5, 2) := by decide +kernel
theorem dX12_rule_131 : decode cX12_rule 131 = .ok (.imul, 1) := by decide +kernel
theorem dX12_rule_132 : decode cX12_rule 132 = .ok (.iadd, 1) := by decide +kernel
theorem dX12_rule_133 : decode cX12_rule 133 = .ok (.iconst 1, 1) := by decide +kernel
theorem dX12_rule_134 : decode cX12_rule 134 = .ok (.iadd, 1) := by decide +kernel
theorem dX12_rule_135 : decode cX12_rule 135 = .ok (.iload_n 2, 1) := by decide +kernel
theorem dX12_rule_136 : decode cX12_rule 136 = .ok (.iastore, 1) := by decide +kernel
theorem dX12_rule_137 : decode cX12_rule 137 = .ok (.aload_n 0, 1) := by decide +kernel
theorem dX12_rule_138 : decode cX12_rule 138 = .ok (.getfield 24, 3) := by decide +kernel
theorem dX12_rule_141 : decode cX12_rule 141 = .ok (.sipush 180, 3) := by decide +kernel
theorem dX12_rule_144 : decode cX12_rule 144 = .ok (.iconst 4, 1) := by decide +kernel
theorem dX12_rule_145 : decode cX12_rule 145 = .ok (.iload 5, 2) := by decide +kernel
theorem dX12_rule_147 : decode cX12_rule 147 = .ok (.imul, 1) := by decide +kernel
theorem dX12_rule_148 : decode cX12_rule 148 = .ok (.iadd, 1) := by decide +kernel
theorem dX12_rule_149 : decode cX12_rule 149 = .ok (.iconst 2, 1) := by decide +kernel
theorem dX12_rule_150 : decode cX12_rule 150 = .ok (.iadd, 1) := by decide +kernel
theorem dX12_rule_151 : decode cX12_rule 151 = .ok (.iload_n 3, 1) := by decide +kernel
theorem dX12_rule_152 : decode cX12_rule 152 = .ok (.iastore, 1) := by decide +kernel
theorem dX12_rule_153 : decode cX12_rule 153 = .ok (.aload_n 0, 1) := by decide +kernel
theorem dX12_rule_154 : decode cX12_rule 154 = .ok (.getfield 24, 3) := by decide +kernel
theorem dX12_rule_157 : decode cX12_rule 157 = .ok (.sipush 180, 3) := by decide +kernel
theorem dX12_rule_160 : decode cX12_rule 160 = .ok (.iconst 4, 1) := by decide +kernel
theorem dX12_rule_161 : decode cX12_rule 161 = .ok (.iload 5, 2) := by decide +kernel
theorem dX12_rule_163 : decode cX12_rule 163 = .ok (.imul, 1) := by decide +kernel
theorem dX12_rule_164 : decode cX12_rule 164 = .ok (.iadd, 1) := by decide +kernel
theorem dX12_rule_165 : decode cX12_rule 165 = .ok (.iconst 3, 1) := by decide +kernel
theorem dX12_rule_166 : decode cX12_rule 166 = .ok (.iadd, 1) := by decide +kernel
theorem dX12_rule_167 : decode cX12_rule 167 = .ok (.iload 4, 2) := by decide +kernel
theorem dX12_rule_169 : decode cX12_rule 169 = .ok (.iastore, 1) := by decide +kernel
theorem dX12_rule_170 : decode cX12_rule 170 = .ok (.aload_n 0, 1) := by decide +kernel
theorem dX12_rule_171 : decode cX12_rule 171 = .ok (.getfield 24, 3) := by decide +kernel
theorem dX12_rule_174 : decode cX12_rule 174 = .ok (.sipush 364, 3) := by decide +kernel
theorem dX12_rule_177 : decode cX12_rule 177 = .ok (.dup2, 1) := by decide +kernel
theorem dX12_rule_178 : decode cX12_rule 178 = .ok (.iaload, 1) := by decide +kernel
theorem dX12_rule_179 : decode cX12_rule 179 = .ok (.iconst 1, 1) := by decide +kernel
theorem dX12_rule_180 : decode cX12_rule 180 = .ok (.iadd, 1) := by decide +kernel
theorem dX12_rule_181 : decode cX12_rule 181 = .ok (.iastore, 1) := by decide +kernel
theorem dX12_rule_182 : decode cX12_rule 182 = .ok (.aload_n 0, 1) := by decide +kernel
theorem dX12_rule_183 : decode cX12_rule 183 = .ok (.iload 5, 2) := by decide +kernel
theorem dX12_rule_185 : decode cX12_rule 185 = .ok (.invokevirtual 14, 3) := by decide +kernel
theorem dX12_rule_188 : decode cX12_rule 188 = .ok (.ireturn, 1) := by decide +kernel
theorem dX12_of_0 : decode cX12_of 0 = .ok (.iload_n 1, 1) := by decide +kernel
theorem dX12_of_1 : decode cX12_of 1 = .ok (.iconst 0, 1) := by decide +kernel
theorem dX12_of_2 : decode cX12_of 2 = .ok (.aload_n 0, 1) := by decide +kernel
theorem dX12_of_3 : decode cX12_of 3 = .ok (.getfield 24, 3) := by decide +kernel
theorem dX12_of_6 : decode cX12_of 6 = .ok (.sipush 364, 3) := by decide +kernel
theorem dX12_of_9 : decode cX12_of 9 = .ok (.iaload, 1) := by decide +kernel
theorem dX12_of_10 : decode cX12_of 10 = .ok (.iconst 1, 1) := by decide +kernel
theorem dX12_of_11 : decode cX12_of 11 = .ok (.isub, 1) := by decide +kernel
theorem dX12_of_12 : decode cX12_of 12 = .ok (.invokestatic 123, 3) := by decide +kernel
theorem dX12_of_15 : decode cX12_of 15 = .ok (.ifCond .eq 29, 3) := by decide +kernel
theorem dX12_of_18 : decode cX12_of 18 = .ok (.iload_n 2, 1) := by decide +kernel
theorem dX12_of_19 : decode cX12_of 19 = .ok (.iconst 0, 1) := by decide +kernel
theorem dX12_of_20 : decode cX12_of 20 = .ok (.iconst 3, 1) := by decide +kernel
theorem dX12_of_21 : decode cX12_of 21 = .ok (.invokestatic 123, 3) := by decide +kernel
theorem dX12_of_24 : decode cX12_of 24 = .ok (.ifCond .eq 20, 3) := by decide +kernel
theorem dX12_of_27 : decode cX12_of 27 = .ok (.aload_n 0, 1) := by decide +kernel
theorem dX12_of_28 : decode cX12_of 28 = .ok (.getfield 24, 3) := by decide +kernel
theorem dX12_of_31 : decode cX12_of 31 = .ok (.sipush 180, 3) := by decide +kernel
theorem dX12_of_34 : decode cX12_of 34 = .ok (.iconst 4, 1) := by decide +kernel
theorem dX12_of_35 : decode cX12_of 35 = .ok (.iload_n 1, 1) := by decide +kernel
theorem dX12_of_36 : decode cX12_of 36 = .ok (.imul, 1) := by decide +kernel
theorem dX12_of_37 : decode cX12_of 37 = .ok (.iadd, 1) := by decide +kernel
theorem dX12_of_38 : decode cX12_of 38 = .ok (.iload_n 2, 1) := by decide +kernel
theorem dX12_of_39 : decode cX12_of 39 = .ok (.iadd, 1) := by decide +kernel
theorem dX12_of_40 : decode cX12_of 40 = .ok (.iaload, 1) := by decide +kernel
theorem dX12_of_41 : decode cX12_of 41 = .ok (.goto 4, 3) := by decide +kernel
theorem dX12_of_44 : decode cX12_of 44 = .ok (.iconst (-1), 1) := by decide +kernel
theorem dX12_of_45 : decode cX12_of 45 = .ok (.ireturn, 1) := by decide +kernel
theorem dX12_clash_0 : decode cX12_clash 0 = .ok (.iload_n 1, 1) := by decide +kernel
theorem dX12_clash_1 : decode cX12_clash 1 = .ok (.invokestatic 148, 3) := by decide +kernel
theorem dX12_clash_4 : decode cX12_clash 4 = .ok (.ifCond .eq 24, 3) := by decide +kernel
theorem dX12_clash_7 : decode cX12_clash 7 = .ok (.iload_n 2, 1) := by decide +kernel
theorem dX12_clash_8 : decode cX12_clash 8 = .ok (.invokestatic 148, 3) := by decide +kernel
theorem dX12_clash_11 : decode cX12_clash 11 = .ok (.ifCond .eq 17, 3) := by decide +kernel
theorem dX12_clash_14 : decode cX12_clash 14 = .ok (.iload_n 1, 1) := by decide +kernel
theorem dX12_clash_15 : decode cX12_clash 15 = .ok (.iload_n 2, 1) := by decide +kernel
theorem dX12_clash_16 : decode cX12_clash 16 = .ok (.if_icmp .eq 12, 3) := by decide +kernel
theorem dX12_clash_19 : decode cX12_clash 19 = .ok (.iload_n 3, 1) := by decide +kernel
theorem dX12_clash_20 : decode cX12_clash 20 = .ok (.iconst 0, 1) := by decide +kernel
theorem dX12_clash_21 : decode cX12_clash 21 = .ok (.iconst 1, 1) := by decide +kernel
theorem dX12_clash_22 : decode cX12_clash 22 = .ok (.invokestatic 123, 3) := by decide +kernel
theorem dX12_clash_25 : decode cX12_clash 25 = .ok (.ifCond .ne 9, 3) := by decide +kernel
theorem dX12_clash_28 : decode cX12_clash 28 = .ok (.aload_n 0, 1) := by decide +kernel
theorem dX12_clash_29 : decode cX12_clash 29 = .ok (.iconst (-1), 1) := by decide +kernel
theorem dX12_clash_30 : decode cX12_clash 30 = .ok (.invokevirtual 127, 3) := by decide +kernel
theorem dX12_clash_33 : decode cX12_clash 33 = .ok (.ireturn, 1) := by decide +kernel
theorem dX12_clash_34 : decode cX12_clash 34 = .ok (.aload_n 0, 1) := by decide +kernel
theorem dX12_clash_35 : decode cX12_clash 35 = .ok (.getfield 24, 3) := by decide +kernel
theorem dX12_clash_38 : decode cX12_clash 38 = .ok (.sipush 244, 3) := by decide +kernel
theorem dX12_clash_41 : decode cX12_clash 41 = .ok (.bipush 8, 2) := by decide +kernel
theorem dX12_clash_43 : decode cX12_clash 43 = .ok (.iload_n 1, 1) := by decide +kernel
theorem dX12_clash_44 : decode cX12_clash 44 = .ok (.imul, 1) := by decide +kernel
theorem dX12_clash_45 : decode cX12_clash 45 = .ok (.iadd, 1) := by decide +kernel
theorem dX12_clash_46 : decode cX12_clash 46 = .ok (.iload_n 2, 1) := by decide +kernel
theorem dX12_clash_47 : decode cX12_clash 47 = .ok (.iadd, 1) := by decide +kernel
theorem dX12_clash_48 : decode cX12_clash 48 = .ok (.iaload, 1) := by decide +kernel
theorem dX12_clash_49 : decode cX12_clash 49 = .ok (.istore 4, 2) := by decide +kernel
theorem dX12_clash_51 : decode cX12_clash 51 = .ok (.aload_n 0, 1) := by decide +kernel
theorem dX12_clash_52 : decode cX12_clash 52 = .ok (.getfield 24, 3) := by decide +kernel
theorem dX12_clash_55 : decode cX12_clash 55 = .ok (.sipush 244, 3) := by decide +kernel
theorem dX12_clash_58 : decode cX12_clash 58 = .ok (.bipush 8, 2) := by decide +kernel
theorem dX12_clash_60 : decode cX12_clash 60 = .ok (.iload_n 1, 1) := by decide +kernel
theorem dX12_clash_61 : decode cX12_clash 61 = .ok (.imul, 1) := by decide +kernel
theorem dX12_clash_62 : decode cX12_clash 62 = .ok (.iadd, 1) := by decide +kernel
theorem dX12_clash_63 : decode cX12_clash 63 = .ok (.iload_n 2, 1) := by decide +kernel
theorem dX12_clash_64 : decode cX12_clash 64 = .ok (.iadd, 1) := by decide +kernel
theorem dX12_clash_65 : decode cX12_clash 65 = .ok (.iload_n 3, 1) := by decide +kernel
theorem dX12_clash_66 : decode cX12_clash 66 = .ok (.iastore, 1) := by decide +kernel
theorem dX12_clash_67 : decode cX12_clash 67 = .ok (.aload_n 0, 1) := by decide +kernel
theorem dX12_clash_68 : decode cX12_clash 68 = .ok (.getfield 24, 3) := by decide +kernel
theorem dX12_clash_71 : decode cX12_clash 71 = .ok (.sipush 244, 3) := by decide +kernel
theorem dX12_clash_74 : decode cX12_clash 74 = .ok (.bipush 8, 2) := by decide +kernel
theorem dX12_clash_76 : decode cX12_clash 76 = .ok (.iload_n 2, 1) := by decide +kernel
theorem dX12_clash_77 : decode cX12_clash 77 = .ok (.imul, 1) := by decide +kernel
theorem dX12_clash_78 : decode cX12_clash 78 = .ok (.iadd, 1) := by decide +kernel
theorem dX12_clash_79 : decode cX12_clash 79 = .ok (.iload_n 1, 1) := by decide +kernel
theorem dX12_clash_80 : decode cX12_clash 80 = .ok (.iadd, 1) := by decide +kernel
theorem dX12_clash_81 : decode cX12_clash 81 = .ok (.iload_n 3, 1) := by decide +kernel
theorem dX12_clash_82 : decode cX12_clash 82 = .ok (.iastore, 1) := by decide +kernel
theorem dX12_clash_83 : decode cX12_clash 83 = .ok (.aload_n 0, 1) := by decide +kernel
theorem dX12_clash_84 : decode cX12_clash 84 = .ok (.iload 4, 2) := by decide +kernel
theorem dX12_clash_86 : decode cX12_clash 86 = .ok (.invokevirtual 14, 3) := by decide +kernel
theorem dX12_clash_89 : decode cX12_clash 89 = .ok (.ireturn, 1) := by decide +kernel
theorem dX12_often_0 : decode cX12_often 0 = .ok (.iload_n 1, 1) := by decide +kernel
theorem dX12_often_1 : decode cX12_often 1 = .ok (.invokestatic 148, 3) := by decide +kernel
theorem dX12_often_4 : decode cX12_often 4 = .ok (.ifCond .eq 13, 3) := by decide +kernel
theorem dX12_often_7 : decode cX12_often 7 = .ok (.iload_n 2, 1) := by decide +kernel
theorem dX12_often_8 : decode cX12_often 8 = .ok (.iconst 0, 1) := by decide +kernel
theorem dX12_often_9 : decode cX12_often 9 = .ok (.bipush 99, 2) := by decide +kernel
theorem dX12_often_11 : decode cX12_often 11 = .ok (.invokestatic 123, 3) := by decide +kernel
theorem dX12_often_14 : decode cX12_often 14 = .ok (.ifCond .ne 9, 3) := by decide +kernel
theorem dX12_often_17 : decode cX12_often 17 = .ok (.aload_n 0, 1) := by decide +kernel
theorem dX12_often_18 : decode cX12_often 18 = .ok (.iconst (-1), 1) := by decide +kernel
theorem dX12_often_19 : decode cX12_often 19 = .ok (.invokevirtual 127, 3) := by decide +kernel
theorem dX12_often_22 : decode cX12_often 22 = .ok (.ireturn, 1) := by decide +kernel
theorem dX12_often_23 : decode cX12_often 23 = .ok (.aload_n 0, 1) := by decide +kernel
theorem dX12_often_24 : decode cX12_often 24 = .ok (.getfield 24, 3) := by decide +kernel
theorem dX12_often_27 : decode cX12_often 27 = .ok (.sipush 308, 3) := by decide +kernel
theorem dX12_often_30 : decode cX12_often 30 = .ok (.iload_n 1, 1) := by decide +kernel
theorem dX12_often_31 : decode cX12_often 31 = .ok (.iadd, 1) := by decide +kernel
theorem dX12_often_32 : decode cX12_often 32 = .ok (.iaload, 1) := by decide +kernel
theorem dX12_often_33 : decode cX12_often 33 = .ok (.istore_n 3, 1) := by decide +kernel
theorem dX12_often_34 : decode cX12_often 34 = .ok (.aload_n 0, 1) := by decide +kernel
theorem dX12_often_35 : decode cX12_often 35 = .ok (.getfield 24, 3) := by decide +kernel
theorem dX12_often_38 : decode cX12_often 38 = .ok (.sipush 308, 3) := by decide +kernel
theorem dX12_often_41 : decode cX12_often 41 = .ok (.iload_n 1, 1) := by decide +kernel
theorem dX12_often_42 : decode cX12_often 42 = .ok (.iadd, 1) := by decide +kernel
theorem dX12_often_43 : decode cX12_often 43 = .ok (.iload_n 2, 1) := by decide +kernel
theorem dX12_often_44 : decode cX12_often 44 = .ok (.iastore, 1) := by decide +kernel
theorem dX12_often_45 : decode cX12_often 45 = .ok (.aload_n 0, 1) := by decide +kernel
theorem dX12_often_46 : decode cX12_often 46 = .ok (.iload_n 3, 1) := by decide +kernel
theorem dX12_often_47 : decode cX12_often 47 = .ok (.invokevirtual 14, 3) := by decide +kernel
theorem dX12_often_50 : decode cX12_often 50 = .ok (.ireturn, 1) := by decide +kernel
theorem dX12_person_0 : decode cX12_person 0 = .ok (.iload_n 1, 1) := by decide +kernel
theorem dX12_person_1 : decode cX12_person 1 = .ok (.iconst 0, 1) := by decide +kernel
theorem dX12_person_2 : decode cX12_person 2 = .ok (.bipush 99, 2) := by decide +kernel
theorem dX12_person_4 : decode cX12_person 4 = .ok (.invokestatic 123, 3) := by decide +kernel
theorem dX12_person_7 : decode cX12_person 7 = .ok (.ifCond .ne 9, 3) := by decide +kernel
theorem dX12_person_10 : decode cX12_person 10 = .ok (.aload_n 0, 1) := by decide +kernel
theorem dX12_person_11 : decode cX12_person 11 = .ok (.iconst (-1), 1) := by decide +kernel
theorem dX12_person_12 : decode cX12_person 12 = .ok (.invokevirtual 127, 3) := by decide +kernel
theorem dX12_person_15 : decode cX12_person 15 = .ok (.ireturn, 1) := by decide +kernel
theorem dX12_person_16 : decode cX12_person 16 = .ok (.aload_n 0, 1) := by decide +kernel
theorem dX12_person_17 : decode cX12_person 17 = .ok (.getfield 24, 3) := by decide +kernel
theorem dX12_person_20 : decode cX12_person 20 = .ok (.sipush 365, 3) := by decide +kernel
theorem dX12_person_23 : decode cX12_person 23 = .ok (.iaload, 1) := by decide +kernel
theorem dX12_person_24 : decode cX12_person 24 = .ok (.istore_n 2, 1) := by decide +kernel
theorem dX12_person_25 : decode cX12_person 25 = .ok (.iload_n 2, 1) := by decide +kernel
theorem dX12_person_26 : decode cX12_person 26 = .ok (.bipush 6, 2) := by decide +kernel
theorem dX12_person_28 : decode cX12_person 28 = .ok (.if_icmp .ne 10, 3) := by decide +kernel
theorem dX12_person_31 : decode cX12_person 31 = .ok (.aload_n 0, 1) := by decide +kernel
theorem dX12_person_32 : decode cX12_person 32 = .ok (.bipush (-5), 2) := by decide +kernel
theorem dX12_person_34 : decode cX12_person 34 = .ok (.invokevirtual 127, 3) := by decide +kernel
theorem dX12_person_37 : decode cX12_person 37 = .ok (.ireturn, 1) := by decide +kernel
theorem dX12_person_38 : decode cX12_person 38 = .ok (.aload_n 0, 1) := by decide +kernel
theorem dX12_person_39 : decode cX12_person 39 = .ok (.getfield 24, 3) := by decide +kernel
theorem dX12_person_42 : decode cX12_person 42 = .ok (.sipush 316, 3) := by decide +kernel
theorem dX12_person_45 : decode cX12_person 45 = .ok (.iload_n 2, 1) := by decide +kernel
theorem dX12_person_46 : decode cX12_person 46 = .ok (.iadd, 1) := by decide +kernel
theorem dX12_person_47 : decode cX12_person 47 = .ok (.iload_n 1, 1) := by decide +kernel
theorem dX12_person_48 : decode cX12_person 48 = .ok (.iastore, 1) := by decide +kernel
theorem dX12_person_49 : decode cX12_person 49 = .ok (.aload_n 0, 1) := by decide +kernel
theorem dX12_person_50 : decode cX12_person 50 = .ok (.getfield 24, 3) := by decide +kernel
theorem dX12_person_53 : decode cX12_person 53 = .ok (.sipush 365, 3) := by decide +kernel
theorem dX12_person_56 : decode cX12_person 56 = .ok (.dup2, 1) := by decide +kernel
theorem dX12_person_57 : decode cX12_person 57 = .ok (.iaload, 1) := by decide +kernel
theorem dX12_person_58 : decode cX12_person 58 = .ok (.iconst 1, 1) := by decide +kernel
theorem dX12_person_59 : decode cX12_person 59 = .ok (.iadd, 1) := by decide +kernel
theorem dX12_person_60 : decode cX12_person 60 = .ok (.iastore, 1) := by decide +kernel
theorem dX12_person_61 : decode cX12_person 61 = .ok (.aload_n 0, 1) := by decide +kernel
theorem dX12_person_62 : decode cX12_person 62 = .ok (.iload_n 2, 1) := by decide +kernel
theorem dX12_person_63 : decode cX12_person 63 = .ok (.invokevirtual 14, 3) := by decide +kernel
theorem dX12_person_66 : decode cX12_person 66 = .ok (.ireturn, 1) := by decide +kernel
theorem dX12_isTerm_0 : decode cX12_isTerm 0 = .ok (.iload_n 0, 1) := by decide +kernel
theorem dX12_isTerm_1 : decode cX12_isTerm 1 = .ok (.tableswitch 63 0 3 #[31, 40, 47, 55], 31) := by decide +kernel
theorem dX12_isTerm_32 : decode cX12_isTerm 32 = .ok (.iload_n 1, 1) := by decide +kernel
theorem dX12_isTerm_33 : decode cX12_isTerm 33 = .ok (.iconst 0, 1) := by decide +kernel
theorem dX12_isTerm_34 : decode cX12_isTerm 34 = .ok (.sipush 999, 3) := by decide +kernel
theorem dX12_isTerm_37 : decode cX12_isTerm 37 = .ok (.invokestatic 123, 3) := by decide +kernel
theorem dX12_isTerm_40 : decode cX12_isTerm 40 = .ok (.ireturn, 1) := by decide +kernel
theorem dX12_isTerm_41 : decode cX12_isTerm 41 = .ok (.iload_n 1, 1) := by decide +kernel
theorem dX12_isTerm_42 : decode cX12_isTerm 42 = .ok (.iconst 1, 1) := by decide +kernel
theorem dX12_isTerm_43 : decode cX12_isTerm 43 = .ok (.iconst 4, 1) := by decide +kernel
theorem dX12_isTerm_44 : decode cX12_isTerm 44 = .ok (.invokestatic 123, 3) := by decide +kernel
theorem dX12_isTerm_47 : decode cX12_isTerm 47 = .ok (.ireturn, 1) := by decide +kernel
theorem dX12_isTerm_48 : decode cX12_isTerm 48 = .ok (.iload_n 1, 1) := by decide +kernel
theorem dX12_isTerm_49 : decode cX12_isTerm 49 = .ok (.iconst 0, 1) := by decide +kernel
theorem dX12_isTerm_50 : decode cX12_isTerm 50 = .ok (.bipush 30, 2) := by decide +kernel
theorem dX12_isTerm_52 : decode cX12_isTerm 52 = .ok (.invokestatic 123, 3) := by decide +kernel
theorem dX12_isTerm_55 : decode cX12_isTerm 55 = .ok (.ireturn, 1) := by decide +kernel
theorem dX12_isTerm_56 : decode cX12_isTerm 56 = .ok (.iload_n 1, 1) := by decide +kernel
theorem dX12_isTerm_57 : decode cX12_isTerm 57 = .ok (.iconst 0, 1) := by decide +kernel
theorem dX12_isTerm_58 : decode cX12_isTerm 58 = .ok (.bipush 9, 2) := by decide +kernel
theorem dX12_isTerm_60 : decode cX12_isTerm 60 = .ok (.invokestatic 123, 3) := by decide +kernel
theorem dX12_isTerm_63 : decode cX12_isTerm 63 = .ok (.ireturn, 1) := by decide +kernel
theorem dX12_isTerm_64 : decode cX12_isTerm 64 = .ok (.iconst 0, 1) := by decide +kernel
theorem dX12_isTerm_65 : decode cX12_isTerm 65 = .ok (.ireturn, 1) := by decide +kernel
theorem dX12_terms_0 : decode cX12_terms 0 = .ok (.iload_n 1, 1) := by decide +kernel
theorem dX12_terms_1 : decode cX12_terms 1 = .ok (.iload_n 2, 1) := by decide +kernel
theorem dX12_terms_2 : decode cX12_terms 2 = .ok (.invokestatic 157, 3) := by decide +kernel
theorem dX12_terms_5 : decode cX12_terms 5 = .ok (.ifCond .ne 9, 3) := by decide +kernel
theorem dX12_terms_8 : decode cX12_terms 8 = .ok (.aload_n 0, 1) := by decide +kernel
theorem dX12_terms_9 : decode cX12_terms 9 = .ok (.iconst (-1), 1) := by decide +kernel
theorem dX12_terms_10 : decode cX12_terms 10 = .ok (.invokevirtual 127, 3) := by decide +kernel
theorem dX12_terms_13 : decode cX12_terms 13 = .ok (.ireturn, 1) := by decide +kernel
theorem dX12_terms_14 : decode cX12_terms 14 = .ok (.iload_n 1, 1) := by decide +kernel
theorem dX12_terms_15 : decode cX12_terms 15 = .ok (.ifCond .ne 9, 3) := by decide +kernel
theorem dX12_terms_18 : decode cX12_terms 18 = .ok (.sipush 169, 3) := by decide +kernel
theorem dX12_terms_21 : decode cX12_terms 21 = .ok (.goto 10, 3) := by decide +kernel
theorem dX12_terms_24 : decode cX12_terms 24 = .ok (.sipush 360, 3) := by decide +kernel
theorem dX12_terms_27 : decode cX12_terms 27 = .ok (.iload_n 1, 1) := by decide +kernel
theorem dX12_terms_28 : decode cX12_terms 28 = .ok (.iadd, 1) := by decide +kernel
theorem dX12_terms_29 : decode cX12_terms 29 = .ok (.iconst 1, 1) := by decide +kernel
theorem dX12_terms_30 : decode cX12_terms 30 = .ok (.isub, 1) := by decide +kernel
theorem dX12_terms_31 : decode cX12_terms 31 = .ok (.istore_n 3, 1) := by decide +kernel
theorem dX12_terms_32 : decode cX12_terms 32 = .ok (.aload_n 0, 1) := by decide +kernel
theorem dX12_terms_33 : decode cX12_terms 33 = .ok (.getfield 24, 3) := by decide +kernel
theorem dX12_terms_36 : decode cX12_terms 36 = .ok (.iload_n 3, 1) := by decide +kernel
theorem dX12_terms_37 : decode cX12_terms 37 = .ok (.iaload, 1) := by decide +kernel
theorem dX12_terms_38 : decode cX12_terms 38 = .ok (.istore 4, 2) := by decide +kernel
theorem dX12_terms_40 : decode cX12_terms 40 = .ok (.aload_n 0, 1) := by decide +kernel
theorem dX12_terms_41 : decode cX12_terms 41 = .ok (.getfield 24, 3) := by decide +kernel
theorem dX12_terms_44 : decode cX12_terms 44 = .ok (.iload_n 3, 1) := by decide +kernel
theorem dX12_terms_45 : decode cX12_terms 45 = .ok (.iload_n 2, 1) := by decide +kernel
theorem dX12_terms_46 : decode cX12_terms 46 = .ok (.iastore, 1) := by decide +kernel
theorem dX12_terms_47 : decode cX12_terms 47 = .ok (.aload_n 0, 1) := by decide +kernel
theorem dX12_terms_48 : decode cX12_terms 48 = .ok (.iload 4, 2) := by decide +kernel
theorem dX12_terms_50 : decode cX12_terms 50 = .ok (.invokevirtual 130, 3) := by decide +kernel
theorem dX12_terms_53 : decode cX12_terms 53 = .ok (.ireturn, 1) := by decide +kernel
theorem dX12_says_0 : decode cX12_says 0 = .ok (.iconst 0, 1) := by decide +kernel
theorem dX12_says_1 : decode cX12_says 1 = .ok (.bipush 7, 2) := by decide +kernel
theorem dX12_says_3 : decode cX12_says 3 = .ok (.aload_n 0, 1) := by decide +kernel
theorem dX12_says_4 : decode cX12_says 4 = .ok (.invokevirtual 133, 3) := by decide +kernel
theorem dX12_says_7 : decode cX12_says 7 = .ok (.imul, 1) := by decide +kernel
theorem dX12_says_8 : decode cX12_says 8 = .ok (.iadd, 1) := by decide +kernel
theorem dX12_says_9 : decode cX12_says 9 = .ok (.istore 5, 2) := by decide +kernel
theorem dX12_says_11 : decode cX12_says 11 = .ok (.aload_n 0, 1) := by decide +kernel
theorem dX12_says_12 : decode cX12_says 12 = .ok (.getfield 24, 3) := by decide +kernel
theorem dX12_says_15 : decode cX12_says 15 = .ok (.iload 5, 2) := by decide +kernel
theorem dX12_says_17 : decode cX12_says 17 = .ok (.iconst 0, 1) := by decide +kernel
theorem dX12_says_18 : decode cX12_says 18 = .ok (.iadd, 1) := by decide +kernel
theorem dX12_says_19 : decode cX12_says 19 = .ok (.iload_n 1, 1) := by decide +kernel
theorem dX12_says_20 : decode cX12_says 20 = .ok (.iastore, 1) := by decide +kernel
theorem dX12_says_21 : decode cX12_says 21 = .ok (.aload_n 0, 1) := by decide +kernel
theorem dX12_says_22 : decode cX12_says 22 = .ok (.getfield 24, 3) := by decide +kernel
theorem dX12_says_25 : decode cX12_says 25 = .ok (.iload 5, 2) := by decide +kernel
theorem dX12_says_27 : decode cX12_says 27 = .ok (.iconst 1, 1) := by decide +kernel
theorem dX12_says_28 : decode cX12_says 28 = .ok (.iadd, 1) := by decide +kernel
theorem dX12_says_29 : decode cX12_says 29 = .ok (.iload_n 2, 1) := by decide +kernel
theorem dX12_says_30 : decode cX12_says 30 = .ok (.iastore, 1) := by decide +kernel
theorem dX12_says_31 : decode cX12_says 31 = .ok (.aload_n 0, 1) := by decide +kernel
theorem dX12_says_32 : decode cX12_says 32 = .ok (.getfield 24, 3) := by decide +kernel
theorem dX12_says_35 : decode cX12_says 35 = .ok (.iload 5, 2) := by decide +kernel
theorem dX12_says_37 : decode cX12_says 37 = .ok (.iconst 2, 1) := by decide +kernel
theorem dX12_says_38 : decode cX12_says 38 = .ok (.iadd, 1) := by decide +kernel
theorem dX12_says_39 : decode cX12_says 39 = .ok (.iload_n 3, 1) := by decide +kernel
theorem dX12_says_40 : decode cX12_says 40 = .ok (.iastore, 1) := by decide +kernel
theorem dX12_says_41 : decode cX12_says 41 = .ok (.aload_n 0, 1) := by decide +kernel
theorem dX12_says_42 : decode cX12_says 42 = .ok (.getfield 24, 3) := by decide +kernel
theorem dX12_says_45 : decode cX12_says 45 = .ok (.iload 5, 2) := by decide +kernel
theorem dX12_says_47 : decode cX12_says 47 = .ok (.iconst 3, 1) := by decide +kernel
theorem dX12_says_48 : decode cX12_says 48 = .ok (.iadd, 1) := by decide +kernel
theorem dX12_says_49 : decode cX12_says 49 = .ok (.iload 4, 2) := by decide +kernel
theorem dX12_says_51 : decode cX12_says 51 = .ok (.iastore, 1) := by decide +kernel
theorem dX12_says_52 : decode cX12_says 52 = .ok (.aload_n 0, 1) := by decide +kernel
theorem dX12_says_53 : decode cX12_says 53 = .ok (.getfield 24, 3) := by decide +kernel
theorem dX12_says_56 : decode cX12_says 56 = .ok (.iload 5, 2) := by decide +kernel
theorem dX12_says_58 : decode cX12_says 58 = .ok (.iconst 4, 1) := by decide +kernel
theorem dX12_says_59 : decode cX12_says 59 = .ok (.iadd, 1) := by decide +kernel
theorem dX12_says_60 : decode cX12_says 60 = .ok (.aload_n 0, 1) := by decide +kernel
theorem dX12_says_61 : decode cX12_says 61 = .ok (.getfield 24, 3) := by decide +kernel
theorem dX12_says_64 : decode cX12_says 64 = .ok (.sipush 169, 3) := by decide +kernel
theorem dX12_says_67 : decode cX12_says 67 = .ok (.iaload, 1) := by decide +kernel
theorem dX12_says_68 : decode cX12_says 68 = .ok (.iastore, 1) := by decide +kernel
theorem dX12_says_69 : decode cX12_says 69 = .ok (.aload_n 0, 1) := by decide +kernel
theorem dX12_says_70 : decode cX12_says 70 = .ok (.getfield 24, 3) := by decide +kernel
theorem dX12_says_73 : decode cX12_says 73 = .ok (.iload 5, 2) := by decide +kernel
theorem dX12_says_75 : decode cX12_says 75 = .ok (.iconst 5, 1) := by decide +kernel
theorem dX12_says_76 : decode cX12_says 76 = .ok (.iadd, 1) := by decide +kernel
theorem dX12_says_77 : decode cX12_says 77 = .ok (.iconst 0, 1) := by decide +kernel
theorem dX12_says_78 : decode cX12_says 78 = .ok (.iastore, 1) := by decide +kernel
theorem dX12_says_79 : decode cX12_says 79 = .ok (.aload_n 0, 1) := by decide +kernel
theorem dX12_says_80 : decode cX12_says 80 = .ok (.getfield 24, 3) := by decide +kernel
theorem dX12_says_83 : decode cX12_says 83 = .ok (.iload 5, 2) := by decide +kernel
theorem dX12_says_85 : decode cX12_says 85 = .ok (.bipush 6, 2) := by decide +kernel
theorem dX12_says_87 : decode cX12_says 87 = .ok (.iadd, 1) := by decide +kernel
theorem dX12_says_88 : decode cX12_says 88 = .ok (.iconst (-1), 1) := by decide +kernel
theorem dX12_says_89 : decode cX12_says 89 = .ok (.iastore, 1) := by decide +kernel
theorem dX12_says_90 : decode cX12_says 90 = .ok (.aload_n 0, 1) := by decide +kernel
theorem dX12_says_91 : decode cX12_says 91 = .ok (.getfield 24, 3) := by decide +kernel
theorem dX12_says_94 : decode cX12_says 94 = .ok (.sipush 168, 3) := by decide +kernel
theorem dX12_says_97 : decode cX12_says 97 = .ok (.dup2, 1) := by decide +kernel
theorem dX12_says_98 : decode cX12_says 98 = .ok (.iaload, 1) := by decide +kernel
theorem dX12_says_99 : decode cX12_says 99 = .ok (.iconst 1, 1) := by decide +kernel
theorem dX12_says_100 : decode cX12_says 100 = .ok (.iadd, 1) := by decide +kernel
theorem dX12_says_101 : decode cX12_says 101 = .ok (.iastore, 1) := by decide +kernel
theorem dX12_says_102 : decode cX12_says 102 = .ok (.return_, 1) := by decide +kernel
theorem dX12_whyNot_0 : decode cX12_whyNot 0 = .ok (.iload_n 2, 1) := by decide +kernel
theorem dX12_whyNot_1 : decode cX12_whyNot 1 = .ok (.invokestatic 148, 3) := by decide +kernel
theorem dX12_whyNot_4 : decode cX12_whyNot 4 = .ok (.ifCond .eq 24, 3) := by decide +kernel
theorem dX12_whyNot_7 : decode cX12_whyNot 7 = .ok (.iload_n 3, 1) := by decide +kernel
theorem dX12_whyNot_8 : decode cX12_whyNot 8 = .ok (.iconst 1, 1) := by decide +kernel
theorem dX12_whyNot_9 : decode cX12_whyNot 9 = .ok (.bipush 99, 2) := by decide +kernel
theorem dX12_whyNot_11 : decode cX12_whyNot 11 = .ok (.invokestatic 123, 3) := by decide +kernel
theorem dX12_whyNot_14 : decode cX12_whyNot 14 = .ok (.ifCond .eq 14, 3) := by decide +kernel
theorem dX12_whyNot_17 : decode cX12_whyNot 17 = .ok (.iload 4, 2) := by decide +kernel
theorem dX12_whyNot_19 : decode cX12_whyNot 19 = .ok (.iconst 1, 1) := by decide +kernel
theorem dX12_whyNot_20 : decode cX12_whyNot 20 = .ok (.bipush 6, 2) := by decide +kernel
theorem dX12_whyNot_22 : decode cX12_whyNot 22 = .ok (.invokestatic 123, 3) := by decide +kernel
theorem dX12_whyNot_25 : decode cX12_whyNot 25 = .ok (.ifCond .ne 5, 3) := by decide +kernel
theorem dX12_whyNot_28 : decode cX12_whyNot 28 = .ok (.iconst (-1), 1) := by decide +kernel
theorem dX12_whyNot_29 : decode cX12_whyNot 29 = .ok (.ireturn, 1) := by decide +kernel
theorem dX12_whyNot_30 : decode cX12_whyNot 30 = .ok (.aload_n 0, 1) := by decide +kernel
theorem dX12_whyNot_31 : decode cX12_whyNot 31 = .ok (.iload_n 1, 1) := by decide +kernel
theorem dX12_whyNot_32 : decode cX12_whyNot 32 = .ok (.invokevirtual 161, 3) := by decide +kernel
theorem dX12_whyNot_35 : decode cX12_whyNot 35 = .ok (.ifCond .ne 6, 3) := by decide +kernel
theorem dX12_whyNot_38 : decode cX12_whyNot 38 = .ok (.bipush (-2), 2) := by decide +kernel
theorem dX12_whyNot_40 : decode cX12_whyNot 40 = .ok (.ireturn, 1) := by decide +kernel
theorem dX12_whyNot_41 : decode cX12_whyNot 41 = .ok (.iload_n 3, 1) := by decide +kernel
theorem dX12_whyNot_42 : decode cX12_whyNot 42 = .ok (.aload_n 0, 1) := by decide +kernel
theorem dX12_whyNot_43 : decode cX12_whyNot 43 = .ok (.iload_n 1, 1) := by decide +kernel
theorem dX12_whyNot_44 : decode cX12_whyNot 44 = .ok (.invokevirtual 164, 3) := by decide +kernel
theorem dX12_whyNot_47 : decode cX12_whyNot 47 = .ok (.if_icmp .le 6, 3) := by decide +kernel
theorem dX12_whyNot_50 : decode cX12_whyNot 50 = .ok (.bipush (-3), 2) := by decide +kernel
theorem dX12_whyNot_52 : decode cX12_whyNot 52 = .ok (.ireturn, 1) := by decide +kernel
theorem dX12_whyNot_53 : decode cX12_whyNot 53 = .ok (.aload_n 0, 1) := by decide +kernel
theorem dX12_whyNot_54 : decode cX12_whyNot 54 = .ok (.invokevirtual 133, 3) := by decide +kernel
theorem dX12_whyNot_57 : decode cX12_whyNot 57 = .ok (.bipush 16, 2) := by decide +kernel
theorem dX12_whyNot_59 : decode cX12_whyNot 59 = .ok (.if_icmp .lt 8, 3) := by decide +kernel
theorem dX12_whyNot_62 : decode cX12_whyNot 62 = .ok (.bipush (-5), 2) := by decide +kernel
theorem dX12_whyNot_64 : decode cX12_whyNot 64 = .ok (.goto 4, 3) := by decide +kernel
theorem dX12_whyNot_67 : decode cX12_whyNot 67 = .ok (.iconst 0, 1) := by decide +kernel
theorem dX12_whyNot_68 : decode cX12_whyNot 68 = .ok (.ireturn, 1) := by decide +kernel
theorem dX12_row_0 : decode cX12_row 0 = .ok (.aload_n 0, 1) := by decide +kernel
theorem dX12_row_1 : decode cX12_row 1 = .ok (.getfield 167, 3) := by decide +kernel
theorem dX12_row_4 : decode cX12_row 4 = .ok (.istore_n 1, 1) := by decide +kernel
theorem dX12_row_5 : decode cX12_row 5 = .ok (.aload_n 0, 1) := by decide +kernel
theorem dX12_row_6 : decode cX12_row 6 = .ok (.iconst 0, 1) := by decide +kernel
theorem dX12_row_7 : decode cX12_row 7 = .ok (.putfield 167, 3) := by decide +kernel
theorem dX12_row_10 : decode cX12_row 10 = .ok (.iload_n 1, 1) := by decide +kernel
theorem dX12_row_11 : decode cX12_row 11 = .ok (.ifCond .ne 10, 3) := by decide +kernel
theorem dX12_row_14 : decode cX12_row 14 = .ok (.aload_n 0, 1) := by decide +kernel
theorem dX12_row_15 : decode cX12_row 15 = .ok (.bipush (-6), 2) := by decide +kernel
theorem dX12_row_17 : decode cX12_row 17 = .ok (.invokevirtual 127, 3) := by decide +kernel
theorem dX12_row_20 : decode cX12_row 20 = .ok (.ireturn, 1) := by decide +kernel
theorem dX12_row_21 : decode cX12_row 21 = .ok (.iconst 0, 1) := by decide +kernel
theorem dX12_row_22 : decode cX12_row 22 = .ok (.istore_n 2, 1) := by decide +kernel
theorem dX12_row_23 : decode cX12_row 23 = .ok (.aload_n 0, 1) := by decide +kernel
theorem dX12_row_24 : decode cX12_row 24 = .ok (.iload_n 1, 1) := by decide +kernel
theorem dX12_row_25 : decode cX12_row 25 = .ok (.iconst 3, 1) := by decide +kernel
theorem dX12_row_26 : decode cX12_row 26 = .ok (.irem, 1) := by decide +kernel
theorem dX12_row_27 : decode cX12_row 27 = .ok (.ifCond .ne 7, 3) := by decide +kernel
theorem dX12_row_30 : decode cX12_row 30 = .ok (.iconst 0, 1) := by decide +kernel
theorem dX12_row_31 : decode cX12_row 31 = .ok (.goto 4, 3) := by decide +kernel
theorem dX12_row_34 : decode cX12_row 34 = .ok (.iconst 1, 1) := by decide +kernel
theorem dX12_row_35 : decode cX12_row 35 = .ok (.putfield 170, 3) := by decide +kernel
theorem dX12_row_38 : decode cX12_row 38 = .ok (.iconst 0, 1) := by decide +kernel
theorem dX12_row_39 : decode cX12_row 39 = .ok (.istore_n 3, 1) := by decide +kernel
theorem dX12_row_40 : decode cX12_row 40 = .ok (.iload_n 3, 1) := by decide +kernel
theorem dX12_row_41 : decode cX12_row 41 = .ok (.iconst 3, 1) := by decide +kernel
theorem dX12_row_42 : decode cX12_row 42 = .ok (.iadd, 1) := by decide +kernel
theorem dX12_row_43 : decode cX12_row 43 = .ok (.iload_n 1, 1) := by decide +kernel
theorem dX12_row_44 : decode cX12_row 44 = .ok (.if_icmp .gt 110, 3) := by decide +kernel
theorem dX12_row_47 : decode cX12_row 47 = .ok (.aload_n 0, 1) := by decide +kernel
theorem dX12_row_48 : decode cX12_row 48 = .ok (.aload_n 0, 1) := by decide +kernel
theorem dX12_row_49 : decode cX12_row 49 = .ok (.getfield 41, 3) := by decide +kernel
theorem dX12_row_52 : decode cX12_row 52 = .ok (.iload_n 3, 1) := by decide +kernel
theorem dX12_row_53 : decode cX12_row 53 = .ok (.baload, 1) := by decide +kernel
theorem dX12_row_54 : decode cX12_row 54 = .ok (.aload_n 0, 1) := by decide +kernel
theorem dX12_row_55 : decode cX12_row 55 = .ok (.getfield 41, 3) := by decide +kernel
theorem dX12_row_58 : decode cX12_row 58 = .ok (.iload_n 3, 1) := by decide +kernel
theorem dX12_row_59 : decode cX12_row 59 = .ok (.iconst 1, 1) := by decide +kernel
theorem dX12_row_60 : decode cX12_row 60 = .ok (.iadd, 1) := by decide +kernel
theorem dX12_row_61 : decode cX12_row 61 = .ok (.baload, 1) := by decide +kernel
theorem dX12_row_62 : decode cX12_row 62 = .ok (.aload_n 0, 1) := by decide +kernel
theorem dX12_row_63 : decode cX12_row 63 = .ok (.getfield 41, 3) := by decide +kernel
theorem dX12_row_66 : decode cX12_row 66 = .ok (.iload_n 3, 1) := by decide +kernel
theorem dX12_row_67 : decode cX12_row 67 = .ok (.iconst 2, 1) := by decide +kernel
theorem dX12_row_68 : decode cX12_row 68 = .ok (.iadd, 1) := by decide +kernel
theorem dX12_row_69 : decode cX12_row 69 = .ok (.baload, 1) := by decide +kernel
theorem dX12_row_70 : decode cX12_row 70 = .ok (.iconst 1, 1) := by decide +kernel
theorem dX12_row_71 : decode cX12_row 71 = .ok (.invokevirtual 173, 3) := by decide +kernel
theorem dX12_row_74 : decode cX12_row 74 = .ok (.ifCond .ne 7, 3) := by decide +kernel
theorem dX12_row_77 : decode cX12_row 77 = .ok (.iconst 1, 1) := by decide +kernel
theorem dX12_row_78 : decode cX12_row 78 = .ok (.goto 4, 3) := by decide +kernel
theorem dX12_row_81 : decode cX12_row 81 = .ok (.iconst 0, 1) := by decide +kernel
theorem dX12_row_82 : decode cX12_row 82 = .ok (.istore 4, 2) := by decide +kernel
theorem dX12_row_84 : decode cX12_row 84 = .ok (.iload 4, 2) := by decide +kernel
theorem dX12_row_86 : decode cX12_row 86 = .ok (.ifCond .eq 30, 3) := by decide +kernel
theorem dX12_row_89 : decode cX12_row 89 = .ok (.aload_n 0, 1) := by decide +kernel
theorem dX12_row_90 : decode cX12_row 90 = .ok (.aload_n 0, 1) := by decide +kernel
theorem dX12_row_91 : decode cX12_row 91 = .ok (.getfield 41, 3) := by decide +kernel
theorem dX12_row_94 : decode cX12_row 94 = .ok (.iload_n 3, 1) := by decide +kernel
theorem dX12_row_95 : decode cX12_row 95 = .ok (.baload, 1) := by decide +kernel
theorem dX12_row_96 : decode cX12_row 96 = .ok (.aload_n 0, 1) := by decide +kernel
theorem dX12_row_97 : decode cX12_row 97 = .ok (.getfield 41, 3) := by decide +kernel
theorem dX12_row_100 : decode cX12_row 100 = .ok (.iload_n 3, 1) := by decide +kernel
theorem dX12_row_101 : decode cX12_row 101 = .ok (.iconst 1, 1) := by decide +kernel
theorem dX12_row_102 : decode cX12_row 102 = .ok (.iadd, 1) := by decide +kernel
theorem dX12_row_103 : decode cX12_row 103 = .ok (.baload, 1) := by decide +kernel
theorem dX12_row_104 : decode cX12_row 104 = .ok (.aload_n 0, 1) := by decide +kernel
theorem dX12_row_105 : decode cX12_row 105 = .ok (.getfield 41, 3) := by decide +kernel
theorem dX12_row_108 : decode cX12_row 108 = .ok (.iload_n 3, 1) := by decide +kernel
theorem dX12_row_109 : decode cX12_row 109 = .ok (.iconst 2, 1) := by decide +kernel
theorem dX12_row_110 : decode cX12_row 110 = .ok (.iadd, 1) := by decide +kernel
theorem dX12_row_111 : decode cX12_row 111 = .ok (.baload, 1) := by decide +kernel
theorem dX12_row_112 : decode cX12_row 112 = .ok (.iconst 1, 1) := by decide +kernel
theorem dX12_row_113 : decode cX12_row 113 = .ok (.invokevirtual 177, 3) := by decide +kernel
theorem dX12_row_116 : decode cX12_row 116 = .ok (.iload_n 2, 1) := by decide +kernel
theorem dX12_row_117 : decode cX12_row 117 = .ok (.iload 4, 2) := by decide +kernel
theorem dX12_row_119 : decode cX12_row 119 = .ok (.ifCond .eq 7, 3) := by decide +kernel
theorem dX12_row_122 : decode cX12_row 122 = .ok (.iconst 1, 1) := by decide +kernel
theorem dX12_row_123 : decode cX12_row 123 = .ok (.goto 4, 3) := by decide +kernel
theorem dX12_row_126 : decode cX12_row 126 = .ok (.iconst 0, 1) := by decide +kernel
theorem dX12_row_127 : decode cX12_row 127 = .ok (.iadd, 1) := by decide +kernel
theorem dX12_row_128 : decode cX12_row 128 = .ok (.istore_n 2, 1) := by decide +kernel
theorem dX12_row_129 : decode cX12_row 129 = .ok (.aload_n 0, 1) := by decide +kernel
theorem dX12_row_130 : decode cX12_row 130 = .ok (.dup, 1) := by decide +kernel
theorem dX12_row_131 : decode cX12_row 131 = .ok (.getfield 170, 3) := by decide +kernel
theorem dX12_row_134 : decode cX12_row 134 = .ok (.iload 4, 2) := by decide +kernel
theorem dX12_row_136 : decode cX12_row 136 = .ok (.ifCond .eq 7, 3) := by decide +kernel
theorem dX12_row_139 : decode cX12_row 139 = .ok (.iconst 0, 1) := by decide +kernel
theorem dX12_row_140 : decode cX12_row 140 = .ok (.goto 4, 3) := by decide +kernel
theorem dX12_row_143 : decode cX12_row 143 = .ok (.iconst 1, 1) := by decide +kernel
theorem dX12_row_144 : decode cX12_row 144 = .ok (.iadd, 1) := by decide +kernel
theorem dX12_row_145 : decode cX12_row 145 = .ok (.putfield 170, 3) := by decide +kernel
theorem dX12_row_148 : decode cX12_row 148 = .ok (.iinc 3 3, 3) := by decide +kernel
theorem dX12_row_151 : decode cX12_row 151 = .ok (.goto (-111), 3) := by decide +kernel
theorem dX12_row_154 : decode cX12_row 154 = .ok (.aload_n 0, 1) := by decide +kernel
theorem dX12_row_155 : decode cX12_row 155 = .ok (.iload_n 2, 1) := by decide +kernel
theorem dX12_row_156 : decode cX12_row 156 = .ok (.invokevirtual 130, 3) := by decide +kernel
theorem dX12_row_159 : decode cX12_row 159 = .ok (.ireturn, 1) := by decide +kernel
theorem dX12_coughs_0 : decode cX12_coughs 0 = .ok (.aload_n 0, 1) := by decide +kernel
theorem dX12_coughs_1 : decode cX12_coughs 1 = .ok (.getfield 170, 3) := by decide +kernel
theorem dX12_coughs_4 : decode cX12_coughs 4 = .ok (.ireturn, 1) := by decide +kernel
theorem dX12_feed_0 : decode cX12_feed 0 = .ok (.aload_n 0, 1) := by decide +kernel
theorem dX12_feed_1 : decode cX12_feed 1 = .ok (.getfield 167, 3) := by decide +kernel
theorem dX12_feed_4 : decode cX12_feed 4 = .ok (.bipush 20, 2) := by decide +kernel
theorem dX12_feed_6 : decode cX12_feed 6 = .ok (.iadd, 1) := by decide +kernel
theorem dX12_feed_7 : decode cX12_feed 7 = .ok (.sipush 400, 3) := by decide +kernel
theorem dX12_feed_10 : decode cX12_feed 10 = .ok (.if_icmp .le 5, 3) := by decide +kernel
theorem dX12_feed_13 : decode cX12_feed 13 = .ok (.iconst (-1), 1) := by decide +kernel
theorem dX12_feed_14 : decode cX12_feed 14 = .ok (.ireturn, 1) := by decide +kernel
theorem dX12_feed_15 : decode cX12_feed 15 = .ok (.aload_n 0, 1) := by decide +kernel
theorem dX12_feed_16 : decode cX12_feed 16 = .ok (.getfield 44, 3) := by decide +kernel
theorem dX12_feed_19 : decode cX12_feed 19 = .ok (.iconst 0, 1) := by decide +kernel
theorem dX12_feed_20 : decode cX12_feed 20 = .ok (.iload_n 1, 1) := by decide +kernel
theorem dX12_feed_21 : decode cX12_feed 21 = .ok (.iastore, 1) := by decide +kernel
theorem dX12_feed_22 : decode cX12_feed 22 = .ok (.aload_n 0, 1) := by decide +kernel
theorem dX12_feed_23 : decode cX12_feed 23 = .ok (.getfield 44, 3) := by decide +kernel
theorem dX12_feed_26 : decode cX12_feed 26 = .ok (.iconst 1, 1) := by decide +kernel
theorem dX12_feed_27 : decode cX12_feed 27 = .ok (.iload_n 2, 1) := by decide +kernel
theorem dX12_feed_28 : decode cX12_feed 28 = .ok (.iastore, 1) := by decide +kernel
theorem dX12_feed_29 : decode cX12_feed 29 = .ok (.aload_n 0, 1) := by decide +kernel
theorem dX12_feed_30 : decode cX12_feed 30 = .ok (.getfield 44, 3) := by decide +kernel
theorem dX12_feed_33 : decode cX12_feed 33 = .ok (.iconst 2, 1) := by decide +kernel
theorem dX12_feed_34 : decode cX12_feed 34 = .ok (.iload_n 3, 1) := by decide +kernel
theorem dX12_feed_35 : decode cX12_feed 35 = .ok (.iastore, 1) := by decide +kernel
theorem dX12_feed_36 : decode cX12_feed 36 = .ok (.aload_n 0, 1) := by decide +kernel
theorem dX12_feed_37 : decode cX12_feed 37 = .ok (.getfield 44, 3) := by decide +kernel
theorem dX12_feed_40 : decode cX12_feed 40 = .ok (.iconst 3, 1) := by decide +kernel
theorem dX12_feed_41 : decode cX12_feed 41 = .ok (.iload 4, 2) := by decide +kernel
theorem dX12_feed_43 : decode cX12_feed 43 = .ok (.iastore, 1) := by decide +kernel
theorem dX12_feed_44 : decode cX12_feed 44 = .ok (.aload_n 0, 1) := by decide +kernel
theorem dX12_feed_45 : decode cX12_feed 45 = .ok (.getfield 44, 3) := by decide +kernel
theorem dX12_feed_48 : decode cX12_feed 48 = .ok (.iconst 4, 1) := by decide +kernel
theorem dX12_feed_49 : decode cX12_feed 49 = .ok (.iload 5, 2) := by decide +kernel
theorem dX12_feed_51 : decode cX12_feed 51 = .ok (.iastore, 1) := by decide +kernel
theorem dX12_feed_52 : decode cX12_feed 52 = .ok (.iconst 0, 1) := by decide +kernel
theorem dX12_feed_53 : decode cX12_feed 53 = .ok (.istore 6, 2) := by decide +kernel
theorem dX12_feed_55 : decode cX12_feed 55 = .ok (.iload 6, 2) := by decide +kernel
theorem dX12_feed_57 : decode cX12_feed 57 = .ok (.bipush 20, 2) := by decide +kernel
theorem dX12_feed_59 : decode cX12_feed 59 = .ok (.if_icmp .ge 42, 3) := by decide +kernel
theorem dX12_feed_62 : decode cX12_feed 62 = .ok (.aload_n 0, 1) := by decide +kernel
theorem dX12_feed_63 : decode cX12_feed 63 = .ok (.getfield 41, 3) := by decide +kernel
theorem dX12_feed_66 : decode cX12_feed 66 = .ok (.aload_n 0, 1) := by decide +kernel
theorem dX12_feed_67 : decode cX12_feed 67 = .ok (.getfield 167, 3) := by decide +kernel
theorem dX12_feed_70 : decode cX12_feed 70 = .ok (.iload 6, 2) := by decide +kernel
theorem dX12_feed_72 : decode cX12_feed 72 = .ok (.iadd, 1) := by decide +kernel
theorem dX12_feed_73 : decode cX12_feed 73 = .ok (.aload_n 0, 1) := by decide +kernel
theorem dX12_feed_74 : decode cX12_feed 74 = .ok (.getfield 44, 3) := by decide +kernel
theorem dX12_feed_77 : decode cX12_feed 77 = .ok (.iload 6, 2) := by decide +kernel
theorem dX12_feed_79 : decode cX12_feed 79 = .ok (.iconst 4, 1) := by decide +kernel
theorem dX12_feed_80 : decode cX12_feed 80 = .ok (.idiv, 1) := by decide +kernel
theorem dX12_feed_81 : decode cX12_feed 81 = .ok (.iaload, 1) := by decide +kernel
theorem dX12_feed_82 : decode cX12_feed 82 = .ok (.bipush 24, 2) := by decide +kernel
theorem dX12_feed_84 : decode cX12_feed 84 = .ok (.bipush 8, 2) := by decide +kernel
theorem dX12_feed_86 : decode cX12_feed 86 = .ok (.iload 6, 2) := by decide +kernel
theorem dX12_feed_88 : decode cX12_feed 88 = .ok (.iconst 4, 1) := by decide +kernel
theorem dX12_feed_89 : decode cX12_feed 89 = .ok (.irem, 1) := by decide +kernel
theorem dX12_feed_90 : decode cX12_feed 90 = .ok (.imul, 1) := by decide +kernel
theorem dX12_feed_91 : decode cX12_feed 91 = .ok (.isub, 1) := by decide +kernel
theorem dX12_feed_92 : decode cX12_feed 92 = .ok (.ishr, 1) := by decide +kernel
theorem dX12_feed_93 : decode cX12_feed 93 = .ok (.i2b, 1) := by decide +kernel
theorem dX12_feed_94 : decode cX12_feed 94 = .ok (.bastore, 1) := by decide +kernel
theorem dX12_feed_95 : decode cX12_feed 95 = .ok (.iinc 6 1, 3) := by decide +kernel
theorem dX12_feed_98 : decode cX12_feed 98 = .ok (.goto (-43), 3) := by decide +kernel
theorem dX12_feed_101 : decode cX12_feed 101 = .ok (.aload_n 0, 1) := by decide +kernel
theorem dX12_feed_102 : decode cX12_feed 102 = .ok (.dup, 1) := by decide +kernel
theorem dX12_feed_103 : decode cX12_feed 103 = .ok (.getfield 167, 3) := by decide +kernel
theorem dX12_feed_106 : decode cX12_feed 106 = .ok (.bipush 20, 2) := by decide +kernel
theorem dX12_feed_108 : decode cX12_feed 108 = .ok (.iadd, 1) := by decide +kernel
theorem dX12_feed_109 : decode cX12_feed 109 = .ok (.putfield 167, 3) := by decide +kernel
theorem dX12_feed_112 : decode cX12_feed 112 = .ok (.aload_n 0, 1) := by decide +kernel
theorem dX12_feed_113 : decode cX12_feed 113 = .ok (.getfield 167, 3) := by decide +kernel
theorem dX12_feed_116 : decode cX12_feed 116 = .ok (.ireturn, 1) := by decide +kernel
theorem dX12_end_0 : decode cX12_end 0 = .ok (.iload_n 1, 1) := by decide +kernel
theorem dX12_end_1 : decode cX12_end 1 = .ok (.iconst 0, 1) := by decide +kernel
theorem dX12_end_2 : decode cX12_end 2 = .ok (.aload_n 0, 1) := by decide +kernel
theorem dX12_end_3 : decode cX12_end 3 = .ok (.getfield 167, 3) := by decide +kernel
theorem dX12_end_6 : decode cX12_end 6 = .ok (.invokestatic 123, 3) := by decide +kernel
theorem dX12_end_9 : decode cX12_end 9 = .ok (.ifCond .ne 5, 3) := by decide +kernel
