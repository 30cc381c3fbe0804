-- VersionMapsLaw.law([I)Z
def m_law : Mi := (⟨"VersionMapsLaw", "law", "([I)Z"⟩, code, 4, (some .boolean), .ireturn)
theorem d_law_0 : decode code 0 = .ok (.new 7, 3) := by decide +kernel
theorem d_law_3 : decode code 3 = .ok (.dup, 1) := by decide +kernel
theorem d_law_4 : decode code 4 = .ok (.invokespecial 9, 3) := by decide +kernel
theorem d_law_7 : decode code 7 = .ok (.astore_n 1, 1) := by decide +kernel
theorem d_law_8 : decode code 8 = .ok (.new 10, 3) := by decide +kernel
theorem d_law_11 : decode code 11 = .ok (.dup, 1) := by decide +kernel
theorem d_law_12 : decode code 12 = .ok (.invokespecial 12, 3) := by decide +kernel
theorem d_law_15 : decode code 15 = .ok (.astore_n 2, 1) := by decide +kernel
theorem d_law_16 : decode code 16 = .ok (.iconst 0, 1) := by decide +kernel
theorem d_law_17 : decode code 17 = .ok (.istore_n 3, 1) := by decide +kernel
theorem d_law_18 : decode code 18 = .ok (.iload_n 3, 1) := by decide +kernel
theorem d_law_19 : decode code 19 = .ok (.aload_n 0, 1) := by decide +kernel
theorem d_law_20 : decode code 20 = .ok (.arraylength, 1) := by decide +kernel
theorem d_law_21 : decode code 21 = .ok (.iconst 4, 1) := by decide +kernel
theorem d_law_22 : decode code 22 = .ok (.isub, 1) := by decide +kernel
theorem d_law_23 : decode code 23 = .ok (.if_icmp .gt 572, 3) := by decide +kernel
theorem d_law_26 : decode code 26 = .ok (.aload_n 0, 1) := by decide +kernel
theorem d_law_27 : decode code 27 = .ok (.iload_n 3, 1) := by decide +kernel
theorem d_law_28 : decode code 28 = .ok (.iaload, 1) := by decide +kernel
theorem d_law_29 : decode code 29 = .ok (.bipush 31, 2) := by decide +kernel
theorem d_law_31 : decode code 31 = .ok (.iand, 1) := by decide +kernel
theorem d_law_32 : decode code 32 = .ok (.tableswitch 557 0 16 #[84, 127, 160, 194, 238, 271, 284, 307, 330, 353, 376, 389, 412, 445, 478, 511, 534], 84) := by decide +kernel
theorem d_law_116 : decode code 116 = .ok (.aload_n 1, 1) := by decide +kernel
theorem d_law_117 : decode code 117 = .ok (.aload_n 0, 1) := by decide +kernel
theorem d_law_118 : decode code 118 = .ok (.iload_n 3, 1) := by decide +kernel
theorem d_law_119 : decode code 119 = .ok (.iconst 1, 1) := by decide +kernel
theorem d_law_120 : decode code 120 = .ok (.iadd, 1) := by decide +kernel
theorem d_law_121 : decode code 121 = .ok (.iaload, 1) := by decide +kernel
theorem d_law_122 : decode code 122 = .ok (.aload_n 0, 1) := by decide +kernel
theorem d_law_123 : decode code 123 = .ok (.iload_n 3, 1) := by decide +kernel
theorem d_law_124 : decode code 124 = .ok (.iconst 2, 1) := by decide +kernel
theorem d_law_125 : decode code 125 = .ok (.iadd, 1) := by decide +kernel
theorem d_law_126 : decode code 126 = .ok (.iaload, 1) := by decide +kernel
theorem d_law_127 : decode code 127 = .ok (.aload_n 0, 1) := by decide +kernel
theorem d_law_128 : decode code 128 = .ok (.iload_n 3, 1) := by decide +kernel
theorem d_law_129 : decode code 129 = .ok (.iconst 3, 1) := by decide +kernel
theorem d_law_130 : decode code 130 = .ok (.iadd, 1) := by decide +kernel
theorem d_law_131 : decode code 131 = .ok (.iaload, 1) := by decide +kernel
theorem d_law_132 : decode code 132 = .ok (.invokevirtual 13, 3) := by decide +kernel
theorem d_law_135 : decode code 135 = .ok (.aload_n 2, 1) := by decide +kernel
theorem d_law_136 : decode code 136 = .ok (.aload_n 0, 1) := by decide +kernel
theorem d_law_137 : decode code 137 = .ok (.iload_n 3, 1) := by decide +kernel
theorem d_law_138 : decode code 138 = .ok (.iconst 1, 1) := by decide +kernel
theorem d_law_139 : decode code 139 = .ok (.iadd, 1) := by decide +kernel
theorem d_law_140 : decode code 140 = .ok (.iaload, 1) := by decide +kernel
theorem d_law_141 : decode code 141 = .ok (.aload_n 0, 1) := by decide +kernel
theorem d_law_142 : decode code 142 = .ok (.iload_n 3, 1) := by decide +kernel
theorem d_law_143 : decode code 143 = .ok (.iconst 2, 1) := by decide +kernel
theorem d_law_144 : decode code 144 = .ok (.iadd, 1) := by decide +kernel
theorem d_law_145 : decode code 145 = .ok (.iaload, 1) := by decide +kernel
theorem d_law_146 : decode code 146 = .ok (.aload_n 0, 1) := by decide +kernel
theorem d_law_147 : decode code 147 = .ok (.iload_n 3, 1) := by decide +kernel
theorem d_law_148 : decode code 148 = .ok (.iconst 3, 1) := by decide +kernel
theorem d_law_149 : decode code 149 = .ok (.iadd, 1) := by decide +kernel
theorem d_law_150 : decode code 150 = .ok (.iaload, 1) := by decide +kernel
theorem d_law_151 : decode code 151 = .ok (.invokevirtual 17, 3) := by decide +kernel
theorem d_law_154 : decode code 154 = .ok (.if_icmp .eq 435, 3) := by decide +kernel
theorem d_law_157 : decode code 157 = .ok (.iconst 0, 1) := by decide +kernel
theorem d_law_158 : decode code 158 = .ok (.ireturn, 1) := by decide +kernel
theorem d_law_159 : decode code 159 = .ok (.aload_n 1, 1) := by decide +kernel
theorem d_law_160 : decode code 160 = .ok (.aload_n 0, 1) := by decide +kernel
theorem d_law_161 : decode code 161 = .ok (.iload_n 3, 1) := by decide +kernel
theorem d_law_162 : decode code 162 = .ok (.iconst 1, 1) := by decide +kernel
theorem d_law_163 : decode code 163 = .ok (.iadd, 1) := by decide +kernel
theorem d_law_164 : decode code 164 = .ok (.iaload, 1) := by decide +kernel
theorem d_law_165 : decode code 165 = .ok (.aload_n 0, 1) := by decide +kernel
theorem d_law_166 : decode code 166 = .ok (.iload_n 3, 1) := by decide +kernel
theorem d_law_167 : decode code 167 = .ok (.iconst 2, 1) := by decide +kernel
theorem d_law_168 : decode code 168 = .ok (.iadd, 1) := by decide +kernel
theorem d_law_169 : decode code 169 = .ok (.iaload, 1) := by decide +kernel
theorem d_law_170 : decode code 170 = .ok (.invokevirtual 18, 3) := by decide +kernel
theorem d_law_173 : decode code 173 = .ok (.aload_n 2, 1) := by decide +kernel
theorem d_law_174 : decode code 174 = .ok (.aload_n 0, 1) := by decide +kernel
theorem d_law_175 : decode code 175 = .ok (.iload_n 3, 1) := by decide +kernel
theorem d_law_176 : decode code 176 = .ok (.iconst 1, 1) := by decide +kernel
theorem d_law_177 : decode code 177 = .ok (.iadd, 1) := by decide +kernel
theorem d_law_178 : decode code 178 = .ok (.iaload, 1) := by decide +kernel
theorem d_law_179 : decode code 179 = .ok (.aload_n 0, 1) := by decide +kernel
theorem d_law_180 : decode code 180 = .ok (.iload_n 3, 1) := by decide +kernel
theorem d_law_181 : decode code 181 = .ok (.iconst 2, 1) := by decide +kernel
theorem d_law_182 : decode code 182 = .ok (.iadd, 1) := by decide +kernel
theorem d_law_183 : decode code 183 = .ok (.iaload, 1) := by decide +kernel
theorem d_law_184 : decode code 184 = .ok (.invokevirtual 22, 3) := by decide +kernel
theorem d_law_187 : decode code 187 = .ok (.if_icmp .eq 402, 3) := by decide +kernel
theorem d_law_190 : decode code 190 = .ok (.iconst 0, 1) := by decide +kernel
theorem d_law_191 : decode code 191 = .ok (.ireturn, 1) := by decide +kernel
theorem d_law_192 : decode code 192 = .ok (.aload_n 1, 1) := by decide +kernel
theorem d_law_193 : decode code 193 = .ok (.aload_n 0, 1) := by decide +kernel
theorem d_law_194 : decode code 194 = .ok (.iload_n 3, 1) := by decide +kernel
theorem d_law_195 : decode code 195 = .ok (.iconst 1, 1) := by decide +kernel
theorem d_law_196 : decode code 196 = .ok (.iadd, 1) := by decide +kernel
theorem d_law_197 : decode code 197 = .ok (.iaload, 1) := by decide +kernel
theorem d_law_198 : decode code 198 = .ok (.aload_n 0, 1) := by decide +kernel
theorem d_law_199 : decode code 199 = .ok (.iload_n 3, 1) := by decide +kernel
theorem d_law_200 : decode code 200 = .ok (.iconst 2, 1) := by decide +kernel
theorem d_law_201 : decode code 201 = .ok (.iadd, 1) := by decide +kernel
theorem d_law_202 : decode code 202 = .ok (.iaload, 1) := by decide +kernel
theorem d_law_203 : decode code 203 = .ok (.invokevirtual 23, 3) := by decide +kernel
theorem d_law_206 : decode code 206 = .ok (.aload_n 2, 1) := by decide +kernel
theorem d_law_207 : decode code 207 = .ok (.aload_n 0, 1) := by decide +kernel
theorem d_law_208 : decode code 208 = .ok (.iload_n 3, 1) := by decide +kernel
theorem d_law_209 : decode code 209 = .ok (.iconst 1, 1) := by decide +kernel
theorem d_law_210 : decode code 210 = .ok (.iadd, 1) := by decide +kernel
theorem d_law_211 : decode code 211 = .ok (.iaload, 1) := by decide +kernel
theorem d_law_212 : decode code 212 = .ok (.aload_n 0, 1) := by decide +kernel
theorem d_law_213 : decode code 213 = .ok (.iload_n 3, 1) := by decide +kernel
theorem d_law_214 : decode code 214 = .ok (.iconst 2, 1) := by decide +kernel
theorem d_law_215 : decode code 215 = .ok (.iadd, 1) := by decide +kernel
theorem d_law_216 : decode code 216 = .ok (.iaload, 1) := by decide +kernel
theorem d_law_217 : decode code 217 = .ok (.invokevirtual 27, 3) := by decide +kernel
theorem d_law_220 : decode code 220 = .ok (.lcmp, 1) := by decide +kernel
theorem d_law_221 : decode code 221 = .ok (.ifCond .eq 368, 3) := by decide +kernel
theorem d_law_224 : decode code 224 = .ok (.iconst 0, 1) := by decide +kernel
theorem d_law_225 : decode code 225 = .ok (.ireturn, 1) := by decide +kernel
theorem d_law_226 : decode code 226 = .ok (.aload_n 1, 1) := by decide +kernel
theorem d_law_227 : decode code 227 = .ok (.aload_n 0, 1) := by decide +kernel
theorem d_law_228 : decode code 228 = .ok (.iload_n 3, 1) := by decide +kernel
theorem d_law_229 : decode code 229 = .ok (.iconst 1, 1) := by decide +kernel
theorem d_law_230 : decode code 230 = .ok (.iadd, 1) := by decide +kernel
theorem d_law_231 : decode code 231 = .ok (.iaload, 1) := by decide +kernel
theorem d_law_232 : decode code 232 = .ok (.aload_n 0, 1) := by decide +kernel
theorem d_law_233 : decode code 233 = .ok (.iload_n 3, 1) := by decide +kernel
theorem d_law_234 : decode code 234 = .ok (.iconst 2, 1) := by decide +kernel
theorem d_law_235 : decode code 235 = .ok (.iadd, 1) := by decide +kernel
theorem d_law_236 : decode code 236 = .ok (.iaload, 1) := by decide +kernel
theorem d_law_237 : decode code 237 = .ok (.aload_n 0, 1) := by decide +kernel
theorem d_law_238 : decode code 238 = .ok (.iload_n 3, 1) := by decide +kernel
theorem d_law_239 : decode code 239 = .ok (.iconst 3, 1) := by decide +kernel
theorem d_law_240 : decode code 240 = .ok (.iadd, 1) := by decide +kernel
theorem d_law_241 : decode code 241 = .ok (.iaload, 1) := by decide +kernel
theorem d_law_242 : decode code 242 = .ok (.invokevirtual 28, 3) := by decide +kernel
theorem d_law_245 : decode code 245 = .ok (.aload_n 2, 1) := by decide +kernel
theorem d_law_246 : decode code 246 = .ok (.aload_n 0, 1) := by decide +kernel
theorem d_law_247 : decode code 247 = .ok (.iload_n 3, 1) := by decide +kernel
theorem d_law_248 : decode code 248 = .ok (.iconst 1, 1) := by decide +kernel
theorem d_law_249 : decode code 249 = .ok (.iadd, 1) := by decide +kernel
theorem d_law_250 : decode code 250 = .ok (.iaload, 1) := by decide +kernel
theorem d_law_251 : decode code 251 = .ok (.aload_n 0, 1) := by decide +kernel
theorem d_law_252 : decode code 252 = .ok (.iload_n 3, 1) := by decide +kernel
theorem d_law_253 : decode code 253 = .ok (.iconst 2, 1) := by decide +kernel
theorem d_law_254 : decode code 254 = .ok (.iadd, 1) := by decide +kernel
theorem d_law_255 : decode code 255 = .ok (.iaload, 1) := by decide +kernel
theorem d_law_256 : decode code 256 = .ok (.aload_n 0, 1) := by decide +kernel
theorem d_law_257 : decode code 257 = .ok (.iload_n 3, 1) := by decide +kernel
theorem d_law_258 : decode code 258 = .ok (.iconst 3, 1) := by decide +kernel
theorem d_law_259 : decode code 259 = .ok (.iadd, 1) := by decide +kernel
theorem d_law_260 : decode code 260 = .ok (.iaload, 1) := by decide +kernel
theorem d_law_261 : decode code 261 = .ok (.invokevirtual 32, 3) := by decide +kernel
theorem d_law_264 : decode code 264 = .ok (.lcmp, 1) := by decide +kernel
theorem d_law_265 : decode code 265 = .ok (.ifCond .eq 324, 3) := by decide +kernel
theorem d_law_268 : decode code 268 = .ok (.iconst 0, 1) := by decide +kernel
theorem d_law_269 : decode code 269 = .ok (.ireturn, 1) := by decide +kernel
theorem d_law_270 : decode code 270 = .ok (.aload_n 1, 1) := by decide +kernel
theorem d_law_271 : decode code 271 = .ok (.aload_n 0, 1) := by decide +kernel
theorem d_law_272 : decode code 272 = .ok (.iload_n 3, 1) := by decide +kernel
theorem d_law_273 : decode code 273 = .ok (.iconst 1, 1) := by decide +kernel
theorem d_law_274 : decode code 274 = .ok (.iadd, 1) := by decide +kernel
theorem d_law_275 : decode code 275 = .ok (.iaload, 1) := by decide +kernel
theorem d_law_276 : decode code 276 = .ok (.aload_n 0, 1) := by decide +kernel
theorem d_law_277 : decode code 277 = .ok (.iload_n 3, 1) := by decide +kernel
theorem d_law_278 : decode code 278 = .ok (.iconst 2, 1) := by decide +kernel
theorem d_law_279 : decode code 279 = .ok (.iadd, 1) := by decide +kernel
theorem d_law_280 : decode code 280 = .ok (.iaload, 1) := by decide +kernel
theorem d_law_281 : decode code 281 = .ok (.invokevirtual 33, 3) := by decide +kernel
theorem d_law_284 : decode code 284 = .ok (.aload_n 2, 1) := by decide +kernel
theorem d_law_285 : decode code 285 = .ok (.aload_n 0, 1) := by decide +kernel
theorem d_law_286 : decode code 286 = .ok (.iload_n 3, 1) := by decide +kernel
theorem d_law_287 : decode code 287 = .ok (.iconst 1, 1) := by decide +kernel
theorem d_law_288 : decode code 288 = .ok (.iadd, 1) := by decide +kernel
theorem d_law_289 : decode code 289 = .ok (.iaload, 1) := by decide +kernel
theorem d_law_290 : decode code 290 = .ok (.aload_n 0, 1) := by decide +kernel
theorem d_law_291 : decode code 291 = .ok (.iload_n 3, 1) := by decide +kernel
theorem d_law_292 : decode code 292 = .ok (.iconst 2, 1) := by decide +kernel
theorem d_law_293 : decode code 293 = .ok (.iadd, 1) := by decide +kernel
theorem d_law_294 : decode code 294 = .ok (.iaload, 1) := by decide +kernel
theorem d_law_295 : decode code 295 = .ok (.invokevirtual 36, 3) := by decide +kernel
theorem d_law_298 : decode code 298 = .ok (.if_icmp .eq 291, 3) := by decide +kernel
theorem d_law_301 : decode code 301 = .ok (.iconst 0, 1) := by decide +kernel
theorem d_law_302 : decode code 302 = .ok (.ireturn, 1) := by decide +kernel
theorem d_law_303 : decode code 303 = .ok (.aload_n 1, 1) := by decide +kernel
theorem d_law_304 : decode code 304 = .ok (.invokevirtual 37, 3) := by decide +kernel
theorem d_law_307 : decode code 307 = .ok (.aload_n 2, 1) := by decide +kernel
theorem d_law_308 : decode code 308 = .ok (.invokevirtual 41, 3) := by decide +kernel
theorem d_law_311 : decode code 311 = .ok (.if_icmp .eq 278, 3) := by decide +kernel
theorem d_law_314 : decode code 314 = .ok (.iconst 0, 1) := by decide +kernel
theorem d_law_315 : decode code 315 = .ok (.ireturn, 1) := by decide +kernel
theorem d_law_316 : decode code 316 = .ok (.aload_n 1, 1) := by decide +kernel
theorem d_law_317 : decode code 317 = .ok (.aload_n 0, 1) := by decide +kernel
theorem d_law_318 : decode code 318 = .ok (.iload_n 3, 1) := by decide +kernel
theorem d_law_319 : decode code 319 = .ok (.iconst 1, 1) := by decide +kernel
theorem d_law_320 : decode code 320 = .ok (.iadd, 1) := by decide +kernel
theorem d_law_321 : decode code 321 = .ok (.iaload, 1) := by decide +kernel
theorem d_law_322 : decode code 322 = .ok (.invokevirtual 42, 3) := by decide +kernel
theorem d_law_325 : decode code 325 = .ok (.aload_n 2, 1) := by decide +kernel
theorem d_law_326 : decode code 326 = .ok (.aload_n 0, 1) := by decide +kernel
theorem d_law_327 : decode code 327 = .ok (.iload_n 3, 1) := by decide +kernel
theorem d_law_328 : decode code 328 = .ok (.iconst 1, 1) := by decide +kernel
theorem d_law_329 : decode code 329 = .ok (.iadd, 1) := by decide +kernel
theorem d_law_330 : decode code 330 = .ok (.iaload, 1) := by decide +kernel
theorem d_law_331 : decode code 331 = .ok (.invokevirtual 46, 3) := by decide +kernel
theorem d_law_334 : decode code 334 = .ok (.if_icmp .eq 255, 3) := by decide +kernel
theorem d_law_337 : decode code 337 = .ok (.iconst 0, 1) := by decide +kernel
theorem d_law_338 : decode code 338 = .ok (.ireturn, 1) := by decide +kernel
theorem d_law_339 : decode code 339 = .ok (.aload_n 1, 1) := by decide +kernel
theorem d_law_340 : decode code 340 = .ok (.aload_n 0, 1) := by decide +kernel
theorem d_law_341 : decode code 341 = .ok (.iload_n 3, 1) := by decide +kernel
theorem d_law_342 : decode code 342 = .ok (.iconst 1, 1) := by decide +kernel
theorem d_law_343 : decode code 343 = .ok (.iadd, 1) := by decide +kernel
theorem d_law_344 : decode code 344 = .ok (.iaload, 1) := by decide +kernel
theorem d_law_345 : decode code 345 = .ok (.invokevirtual 47, 3) := by decide +kernel
theorem d_law_348 : decode code 348 = .ok (.aload_n 2, 1) := by decide +kernel
theorem d_law_349 : decode code 349 = .ok (.aload_n 0, 1) := by decide +kernel
theorem d_law_350 : decode code 350 = .ok (.iload_n 3, 1) := by decide +kernel
theorem d_law_351 : decode code 351 = .ok (.iconst 1, 1) := by decide +kernel
theorem d_law_352 : decode code 352 = .ok (.iadd, 1) := by decide +kernel
theorem d_law_353 : decode code 353 = .ok (.iaload, 1) := by decide +kernel
theorem d_law_354 : decode code 354 = .ok (.invokevirtual 50, 3) := by decide +kernel
theorem d_law_357 : decode code 357 = .ok (.if_icmp .eq 232, 3) := by decide +kernel
theorem d_law_360 : decode code 360 = .ok (.iconst 0, 1) := by decide +kernel
theorem d_law_361 : decode code 361 = .ok (.ireturn, 1) := by decide +kernel
theorem d_law_362 : decode code 362 = .ok (.aload_n 1, 1) := by decide +kernel
theorem d_law_363 : decode code 363 = .ok (.aload_n 0, 1) := by decide +kernel
theorem d_law_364 : decode code 364 = .ok (.iload_n 3, 1) := by decide +kernel
theorem d_law_365 : decode code 365 = .ok (.iconst 1, 1) := by decide +kernel
theorem d_law_366 : decode code 366 = .ok (.iadd, 1) := by decide +kernel
theorem d_law_367 : decode code 367 = .ok (.iaload, 1) := by decide +kernel
theorem d_law_368 : decode code 368 = .ok (.invokevirtual 51, 3) := by decide +kernel
theorem d_law_371 : decode code 371 = .ok (.aload_n 2, 1) := by decide +kernel
theorem d_law_372 : decode code 372 = .ok (.aload_n 0, 1) := by decide +kernel
theorem d_law_373 : decode code 373 = .ok (.iload_n 3, 1) := by decide +kernel
theorem d_law_374 : decode code 374 = .ok (.iconst 1, 1) := by decide +kernel
theorem d_law_375 : decode code 375 = .ok (.iadd, 1) := by decide +kernel
theorem d_law_376 : decode code 376 = .ok (.iaload, 1) := by decide +kernel
theorem d_law_377 : decode code 377 = .ok (.invokevirtual 54, 3) := by decide +kernel
theorem d_law_380 : decode code 380 = .ok (.if_icmp .eq 209, 3) := by decide +kernel
theorem d_law_383 : decode code 383 = .ok (.iconst 0, 1) := by decide +kernel
theorem d_law_384 : decode code 384 = .ok (.ireturn, 1) := by decide +kernel
theorem d_law_385 : decode code 385 = .ok (.aload_n 1, 1) := by decide +kernel
theorem d_law_386 : decode code 386 = .ok (.aload_n 0, 1) := by decide +kernel
theorem d_law_387 : decode code 387 = .ok (.iload_n 3, 1) := by decide +kernel
theorem d_law_388 : decode code 388 = .ok (.iconst 1, 1) := by decide +kernel
theorem d_law_389 : decode code 389 = .ok (.iadd, 1) := by decide +kernel
theorem d_law_390 : decode code 390 = .ok (.iaload, 1) := by decide +kernel
theorem d_law_391 : decode code 391 = .ok (.invokevirtual 55, 3) := by decide +kernel
theorem d_law_394 : decode code 394 = .ok (.aload_n 2, 1) := by decide +kernel
theorem d_law_395 : decode code 395 = .ok (.aload_n 0, 1) := by decide +kernel
theorem d_law_396 : decode code 396 = .ok (.iload_n 3, 1) := by decide +kernel
theorem d_law_397 : decode code 397 = .ok (.iconst 1, 1) := by decide +kernel
theorem d_law_398 : decode code 398 = .ok (.iadd, 1) := by decide +kernel
theorem d_law_399 : decode code 399 = .ok (.iaload, 1) := by decide +kernel
theorem d_law_400 : decode code 400 = .ok (.invokevirtual 58, 3) := by decide +kernel
theorem d_law_403 : decode code 403 = .ok (.if_icmp .eq 186, 3) := by decide +kernel
theorem d_law_406 : decode code 406 = .ok (.iconst 0, 1) := by decide +kernel
theorem d_law_407 : decode code 407 = .ok (.ireturn, 1) := by decide +kernel
theorem d_law_408 : decode code 408 = .ok (.aload_n 1, 1) := by decide +kernel
theorem d_law_409 : decode code 409 = .ok (.invokevirtual 59, 3) := by decide +kernel
theorem d_law_412 : decode code 412 = .ok (.aload_n 2, 1) := by decide +kernel
theorem d_law_413 : decode code 413 = .ok (.invokevirtual 62, 3) := by decide +kernel
theorem d_law_416 : decode code 416 = .ok (.if_icmp .eq 173, 3) := by decide +kernel
theorem d_law_419 : decode code 419 = .ok (.iconst 0, 1) := by decide +kernel
theorem d_law_420 : decode code 420 = .ok (.ireturn, 1) := by decide +kernel
theorem d_law_421 : decode code 421 = .ok (.aload_n 1, 1) := by decide +kernel
theorem d_law_422 : decode code 422 = .ok (.aload_n 0, 1) := by decide +kernel
theorem d_law_423 : decode code 423 = .ok (.iload_n 3, 1) := by decide +kernel
theorem d_law_424 : decode code 424 = .ok (.iconst 1, 1) := by decide +kernel
theorem d_law_425 : decode code 425 = .ok (.iadd, 1) := by decide +kernel
theorem d_law_426 : decode code 426 = .ok (.iaload, 1) := by decide +kernel
theorem d_law_427 : decode code 427 = .ok (.invokevirtual 63, 3) := by decide +kernel
theorem d_law_430 : decode code 430 = .ok (.aload_n 2, 1) := by decide +kernel
theorem d_law_431 : decode code 431 = .ok (.aload_n 0, 1) := by decide +kernel
theorem d_law_432 : decode code 432 = .ok (.iload_n 3, 1) := by decide +kernel
theorem d_law_433 : decode code 433 = .ok (.iconst 1, 1) := by decide +kernel
theorem d_law_434 : decode code 434 = .ok (.iadd, 1) := by decide +kernel
theorem d_law_435 : decode code 435 = .ok (.iaload, 1) := by decide +kernel
theorem d_law_436 : decode code 436 = .ok (.invokevirtual 66, 3) := by decide +kernel
theorem d_law_439 : decode code 439 = .ok (.if_icmp .eq 150, 3) := by decide +kernel
theorem d_law_442 : decode code 442 = .ok (.iconst 0, 1) := by decide +kernel
theorem d_law_443 : decode code 443 = .ok (.ireturn, 1) := by decide +kernel
theorem d_law_444 : decode code 444 = .ok (.aload_n 1, 1) := by decide +kernel
theorem d_law_445 : decode code 445 = .ok (.aload_n 0, 1) := by decide +kernel
theorem d_law_446 : decode code 446 = .ok (.iload_n 3, 1) := by decide +kernel
theorem d_law_447 : decode code 447 = .ok (.iconst 1, 1) := by decide +kernel
theorem d_law_448 : decode code 448 = .ok (.iadd, 1) := by decide +kernel
theorem d_law_449 : decode code 449 = .ok (.iaload, 1) := by decide +kernel
theorem d_law_450 : decode code 450 = .ok (.aload_n 0, 1) := by decide +kernel
theorem d_law_451 : decode code 451 = .ok (.iload_n 3, 1) := by decide +kernel
theorem d_law_452 : decode code 452 = .ok (.iconst 2, 1) := by decide +kernel
theorem d_law_453 : decode code 453 = .ok (.iadd, 1) := by decide +kernel
theorem d_law_454 : decode code 454 = .ok (.iaload, 1) := by decide +kernel
theorem d_law_455 : decode code 455 = .ok (.invokevirtual 67, 3) := by decide +kernel
theorem d_law_458 : decode code 458 = .ok (.aload_n 2, 1) := by decide +kernel
theorem d_law_459 : decode code 459 = .ok (.aload_n 0, 1) := by decide +kernel
theorem d_law_460 : decode code 460 = .ok (.iload_n 3, 1) := by decide +kernel
theorem d_law_461 : decode code 461 = .ok (.iconst 1, 1) := by decide +kernel
theorem d_law_462 : decode code 462 = .ok (.iadd, 1) := by decide +kernel
theorem d_law_463 : decode code 463 = .ok (.iaload, 1) := by decide +kernel
theorem d_law_464 : decode code 464 = .ok (.aload_n 0, 1) := by decide +kernel
theorem d_law_465 : decode code 465 = .ok (.iload_n 3, 1) := by decide +kernel
theorem d_law_466 : decode code 466 = .ok (.iconst 2, 1) := by decide +kernel
theorem d_law_467 : decode code 467 = .ok (.iadd, 1) := by decide +kernel
theorem d_law_468 : decode code 468 = .ok (.iaload, 1) := by decide +kernel
theorem d_law_469 : decode code 469 = .ok (.invokevirtual 70, 3) := by decide +kernel
theorem d_law_472 : decode code 472 = .ok (.if_icmp .eq 117, 3) := by decide +kernel
theorem d_law_475 : decode code 475 = .ok (.iconst 0, 1) := by decide +kernel
theorem d_law_476 : decode code 476 = .ok (.ireturn, 1) := by decide +kernel
theorem d_law_477 : decode code 477 = .ok (.aload_n 1, 1) := by decide +kernel
theorem d_law_478 : decode code 478 = .ok (.aload_n 0, 1) := by decide +kernel
theorem d_law_479 : decode code 479 = .ok (.iload_n 3, 1) := by decide +kernel
theorem d_law_480 : decode code 480 = .ok (.iconst 1, 1) := by decide +kernel
theorem d_law_481 : decode code 481 = .ok (.iadd, 1) := by decide +kernel
theorem d_law_482 : decode code 482 = .ok (.iaload, 1) := by decide +kernel
theorem d_law_483 : decode code 483 = .ok (.aload_n 0, 1) := by decide +kernel
theorem d_law_484 : decode code 484 = .ok (.iload_n 3, 1) := by decide +kernel
theorem d_law_485 : decode code 485 = .ok (.iconst 2, 1) := by decide +kernel
theorem d_law_486 : decode code 486 = .ok (.iadd, 1) := by decide +kernel
theorem d_law_487 : decode code 487 = .ok (.iaload, 1) := by decide +kernel
theorem d_law_488 : decode code 488 = .ok (.invokevirtual 71, 3) := by decide +kernel
theorem d_law_491 : decode code 491 = .ok (.aload_n 2, 1) := by decide +kernel
theorem d_law_492 : decode code 492 = .ok (.aload_n 0, 1) := by decide +kernel
theorem d_law_493 : decode code 493 = .ok (.iload_n 3, 1) := by decide +kernel
theorem d_law_494 : decode code 494 = .ok (.iconst 1, 1) := by decide +kernel
theorem d_law_495 : decode code 495 = .ok (.iadd, 1) := by decide +kernel
theorem d_law_496 : decode code 496 = .ok (.iaload, 1) := by decide +kernel
theorem d_law_497 : decode code 497 = .ok (.aload_n 0, 1) := by decide +kernel
theorem d_law_498 : decode code 498 = .ok (.iload_n 3, 1) := by decide +kernel
theorem d_law_499 : decode code 499 = .ok (.iconst 2, 1) := by decide +kernel
theorem d_law_500 : decode code 500 = .ok (.iadd, 1) := by decide +kernel
theorem d_law_501 : decode code 501 = .ok (.iaload, 1) := by decide +kernel
theorem d_law_502 : decode code 502 = .ok (.invokevirtual 74, 3) := by decide +kernel
theorem d_law_505 : decode code 505 = .ok (.if_icmp .eq 84, 3) := by decide +kernel
theorem d_law_508 : decode code 508 = .ok (.iconst 0, 1) := by decide +kernel
theorem d_law_509 : decode code 509 = .ok (.ireturn, 1) := by decide +kernel
theorem d_law_510 : decode code 510 = .ok (.aload_n 1, 1) := by decide +kernel
theorem d_law_511 : decode code 511 = .ok (.aload_n 0, 1) := by decide +kernel
theorem d_law_512 : decode code 512 = .ok (.iload_n 3, 1) := by decide +kernel
theorem d_law_513 : decode code 513 = .ok (.iconst 1, 1) := by decide +kernel
theorem d_law_514 : decode code 514 = .ok (.iadd, 1) := by decide +kernel
theorem d_law_515 : decode code 515 = .ok (.iaload, 1) := by decide +kernel
theorem d_law_516 : decode code 516 = .ok (.aload_n 0, 1) := by decide +kernel
theorem d_law_517 : decode code 517 = .ok (.iload_n 3, 1) := by decide +kernel
theorem d_law_518 : decode code 518 = .ok (.iconst 2, 1) := by decide +kernel
theorem d_law_519 : decode code 519 = .ok (.iadd, 1) := by decide +kernel
theorem d_law_520 : decode code 520 = .ok (.iaload, 1) := by decide +kernel
theorem d_law_521 : decode code 521 = .ok (.invokevirtual 75, 3) := by decide +kernel
theorem d_law_524 : decode code 524 = .ok (.aload_n 2, 1) := by decide +kernel
theorem d_law_525 : decode code 525 = .ok (.aload_n 0, 1) := by decide +kernel
theorem d_law_526 : decode code 526 = .ok (.iload_n 3, 1) := by decide +kernel
theorem d_law_527 : decode code 527 = .ok (.iconst 1, 1) := by decide +kernel
theorem d_law_528 : decode code 528 = .ok (.iadd, 1) := by decide +kernel
theorem d_law_529 : decode code 529 = .ok (.iaload, 1) := by decide +kernel
theorem d_law_530 : decode code 530 = .ok (.aload_n 0, 1) := by decide +kernel
theorem d_law_531 : decode code 531 = .ok (.iload_n 3, 1) := by decide +kernel
theorem d_law_532 : decode code 532 = .ok (.iconst 2, 1) := by decide +kernel
theorem d_law_533 : decode code 533 = .ok (.iadd, 1) := by decide +kernel
theorem d_law_534 : decode code 534 = .ok (.iaload, 1) := by decide +kernel
theorem d_law_535 : decode code 535 = .ok (.invokevirtual 78, 3) := by decide +kernel
theorem d_law_538 : decode code 538 = .ok (.if_icmp .eq 51, 3) := by decide +kernel
theorem d_law_541 : decode code 541 = .ok (.iconst 0, 1) := by decide +kernel
theorem d_law_542 : decode code 542 = .ok (.ireturn, 1) := by decide +kernel
theorem d_law_543 : decode code 543 = .ok (.aload_n 1, 1) := by decide +kernel
theorem d_law_544 : decode code 544 = .ok (.aload_n 0, 1) := by decide +kernel
theorem d_law_545 : decode code 545 = .ok (.iload_n 3, 1) := by decide +kernel
theorem d_law_546 : decode code 546 = .ok (.iconst 1, 1) := by decide +kernel
theorem d_law_547 : decode code 547 = .ok (.iadd, 1) := by decide +kernel
theorem d_law_548 : decode code 548 = .ok (.iaload, 1) := by decide +kernel
theorem d_law_549 : decode code 549 = .ok (.invokevirtual 79, 3) := by decide +kernel
theorem d_law_552 : decode code 552 = .ok (.aload_n 2, 1) := by decide +kernel
theorem d_law_553 : decode code 553 = .ok (.aload_n 0, 1) := by decide +kernel
theorem d_law_554 : decode code 554 = .ok (.iload_n 3, 1) := by decide +kernel
theorem d_law_555 : decode code 555 = .ok (.iconst 1, 1) := by decide +kernel
theorem d_law_556 : decode code 556 = .ok (.iadd, 1) := by decide +kernel
theorem d_law_557 : decode code 557 = .ok (.iaload, 1) := by decide +kernel
theorem d_law_558 : decode code 558 = .ok (.invokevirtual 82, 3) := by decide +kernel
theorem d_law_561 : decode code 561 = .ok (.if_icmp .eq 28, 3) := by decide +kernel
theorem d_law_564 : decode code 564 = .ok (.iconst 0, 1) := by decide +kernel
theorem d_law_565 : decode code 565 = .ok (.ireturn, 1) := by decide +kernel
theorem d_law_566 : decode code 566 = .ok (.aload_n 1, 1) := by decide +kernel
theorem d_law_567 : decode code 567 = .ok (.aload_n 0, 1) := by decide +kernel
theorem d_law_568 : decode code 568 = .ok (.iload_n 3, 1) := by decide +kernel
theorem d_law_569 : decode code 569 = .ok (.iconst 1, 1) := by decide +kernel
theorem d_law_570 : decode code 570 = .ok (.iadd, 1) := by decide +kernel
theorem d_law_571 : decode code 571 = .ok (.iaload, 1) := by decide +kernel
theorem d_law_572 : decode code 572 = .ok (.invokevirtual 83, 3) := by decide +kernel
theorem d_law_575 : decode code 575 = .ok (.aload_n 2, 1) := by decide +kernel
theorem d_law_576 : decode code 576 = .ok (.aload_n 0, 1) := by decide +kernel
theorem d_law_577 : decode code 577 = .ok (.iload_n 3, 1) := by decide +kernel
theorem d_law_578 : decode code 578 = .ok (.iconst 1, 1) := by decide +kernel
theorem d_law_579 : decode code 579 = .ok (.iadd, 1) := by decide +kernel
theorem d_law_580 : decode code 580 = .ok (.iaload, 1) := by decide +kernel
theorem d_law_581 : decode code 581 = .ok (.invokevirtual 86, 3) := by decide +kernel
theorem d_law_584 : decode code 584 = .ok (.if_icmp .eq 5, 3) := by decide +kernel
theorem d_law_587 : decode code 587 = .ok (.iconst 0, 1) := by decide +kernel
theorem d_law_588 : decode code 588 = .ok (.ireturn, 1) := by decide +kernel
theorem d_law_589 : decode code 589 = .ok (.iinc 3 4, 3) := by decide +kernel
theorem d_law_592 : decode code 592 = .ok (.goto (-574), 3) := by decide +kernel
theorem d_law_595 : decode code 595 = .ok (.iconst 1, 1) := by decide +kernel
theorem d_law_596 : decode code 596 = .ok (.ireturn, 1) := by decide +kernel
def W_law : Wl := ([(0, 0), (0, 1), (0, 2), (0, 3), (0, 4), (0, 5), (0, 6), (0, 7), (1, 0), (1, 1), (1, 2), (1, 3), (1, 4), (1, 5), (2, 0), (2, 1), (2, 2), (2, 3), (2, 4), (3, 0), (3, 1), (3, 2), (3, 3), (3, 4), (4, 0), (4, 1), (4, 2), (4, 3), (4, 4), (5, 0), (5, 1), (5, 2), (5, 3), (6, 0), (6, 1), (6, 2), (6, 3), (7, 0), (7, 1), (7, 2), (8, 0), (8, 1), (8, 2), (8, 3), (8, 4), (8, 5), (8, 6), (8, 7), (8, 8), (8, 9), (8, 10), (8, 11), (8, 12), (8, 13), (8, 14), (8, 15), (8, 16), (8, 17), (8, 18), (8, 19), (8, 20), (8, 21), (8, 22), (8, 23), (8, 24), (8, 25), (8, 26), (8, 27), (8, 28), (8, 29), (8, 30), (8, 31), (8, 32), (8, 33), (9, 0), (9, 1), (9, 2)], [66, 67, 68, 69, 70, 71, 72, 73, 74, 75, 76, 77, 78, 79, 80, 81, 82, 83, 84, 85, 86, 87, 88, 89, 90, 91, 92, 93, 94, 95, 96, 97, 98, 99, 100, 101, 102, 103, 104, 105, 106])
def b_law_18 (E : Nat × Nat) (y0 : Option Nat) (y1 : Option Nat) (y2 : Option Nat) (y3 : Int32) (h : Hp) : Option ((Int32 × Hp) ⊕ ((Hp) ⊕ (Int32 × Hp))) :=
  dr y0 fun a13 => gd (isA h a13 0) (if ((Int32.ofNat (hpL h a13)) - (nI 4)) < y3 then (some (.inr (.inl h))) else (gd (inb y3 (hpL h a13)) (if ((hpI h a13 y3.toNatClampNeg) &&& (nI 31)) = (0 : Int32) then (gd (inb (y3 + (1 : Int32)) (hpL h a13)) (gd (inb (y3 + (nI 2)) (hpL h a13)) (gd (inb (y3 + (nI 3)) (hpL h a13)) (dr y1 fun a22 => gd (isK h a22 0) (cl (f_X_put a22 (hpI h a13 (y3 + (1 : Int32)).toNatClampNeg) (hpI h a13 (y3 + (nI 2)).toNatClampNeg) (hpI h a13 (y3 + (nI 3)).toNatClampNeg) h) fun v27 h25 => gd (isA h25 a13 0) (gd (inb (y3 + (1 : Int32)) (hpL h25 a13)) (gd (inb (y3 + (nI 2)) (hpL h25 a13)) (gd (inb (y3 + (nI 3)) (hpL h25 a13)) (dr y2 fun a33 => gd (isK h25 a33 8) (cl (f_M_put a33 (hpI h25 a13 (y3 + (1 : Int32)).toNatClampNeg) (hpI h25 a13 (y3 + (nI 2)).toNatClampNeg) (hpI h25 a13 (y3 + (nI 3)).toNatClampNeg) h25) fun v38 h36 => if v27 = v38 then (some (.inl ((y3 + (nI 4)), h36))) else (some (.inr (.inr ((0 : Int32), h36)))))))))))))) else if ((hpI h a13 y3.toNatClampNeg) &&& (nI 31)) = (1 : Int32) then (gd (inb (y3 + (1 : Int32)) (hpL h a13)) (gd (inb (y3 + (nI 2)) (hpL h a13)) (dr y1 fun a44 => gd (isK h a44 0) (cl (f_X_remove a44 (hpI h a13 (y3 + (1 : Int32)).toNatClampNeg) (hpI h a13 (y3 + (nI 2)).toNatClampNeg) h) fun v49 h47 => gd (isA h47 a13 0) (gd (inb (y3 + (1 : Int32)) (hpL h47 a13)) (gd (inb (y3 + (nI 2)) (hpL h47 a13)) (dr y2 fun a54 => gd (isK h47 a54 8) (cl (f_M_remove a54 (hpI h47 a13 (y3 + (1 : Int32)).toNatClampNeg) (hpI h47 a13 (y3 + (nI 2)).toNatClampNeg) h47) fun v59 h57 => if v49 = v59 then (some (.inl ((y3 + (nI 4)), h57))) else (some (.inr (.inr ((0 : Int32), h57)))))))))))) else if ((hpI h a13 y3.toNatClampNeg) &&& (nI 31)) = (nI 2) then (gd (inb (y3 + (1 : Int32)) (hpL h a13)) (gd (inb (y3 + (nI 2)) (hpL h a13)) (dr y1 fun a65 => gd (isK h a65 0) (cl (f_X_get a65 (hpI h a13 (y3 + (1 : Int32)).toNatClampNeg) (hpI h a13 (y3 + (nI 2)).toNatClampNeg) h) fun v70 h68 => gd (isA h68 a13 0) (gd (inb (y3 + (1 : Int32)) (hpL h68 a13)) (gd (inb (y3 + (nI 2)) (hpL h68 a13)) (dr y2 fun a75 => gd (isK h68 a75 8) (cl (f_M_get a75 (hpI h68 a13 (y3 + (1 : Int32)).toNatClampNeg) (hpI h68 a13 (y3 + (nI 2)).toNatClampNeg) h68) fun v80 h78 => if (lg_cmp v70 v80) = 0 then (some (.inl ((y3 + (nI 4)), h78))) else (some (.inr (.inr ((0 : Int32), h78)))))))))))) else if ((hpI h a13 y3.toNatClampNeg) &&& (nI 31)) = (nI 3) then (gd (inb (y3 + (1 : Int32)) (hpL h a13)) (gd (inb (y3 + (nI 2)) (hpL h a13)) (gd (inb (y3 + (nI 3)) (hpL h a13)) (dr y1 fun a87 => gd (isK h a87 0) (cl (f_X_at a87 (hpI h a13 (y3 + (1 : Int32)).toNatClampNeg) (hpI h a13 (y3 + (nI 2)).toNatClampNeg) (hpI h a13 (y3 + (nI 3)).toNatClampNeg) h) fun v92 h90 => gd (isA h90 a13 0) (gd (inb (y3 + (1 : Int32)) (hpL h90 a13)) (gd (inb (y3 + (nI 2)) (hpL h90 a13)) (gd (inb (y3 + (nI 3)) (hpL h90 a13)) (dr y2 fun a98 => gd (isK h90 a98 8) (cl (f_M_at a98 (hpI h90 a13 (y3 + (1 : Int32)).toNatClampNeg) (hpI h90 a13 (y3 + (nI 2)).toNatClampNeg) (hpI h90 a13 (y3 + (nI 3)).toNatClampNeg) h90) fun v103 h101 => if (lg_cmp v92 v103) = 0 then (some (.inl ((y3 + (nI 4)), h101))) else (some (.inr (.inr ((0 : Int32), h101)))))))))))))) else if ((hpI h a13 y3.toNatClampNeg) &&& (nI 31)) = (nI 4) then (gd (inb (y3 + (1 : Int32)) (hpL h a13)) (gd (inb (y3 + (nI 2)) (hpL h a13)) (dr y1 fun a109 => gd (isK h a109 0) (cl (f_X_next a109 (hpI h a13 (y3 + (1 : Int32)).toNatClampNeg) (hpI h a13 (y3 + (nI 2)).toNatClampNeg) h) fun v114 h112 => gd (isA h112 a13 0) (gd (inb (y3 + (1 : Int32)) (hpL h112 a13)) (gd (inb (y3 + (nI 2)) (hpL h112 a13)) (dr y2 fun a119 => gd (isK h112 a119 8) (cl (f_M_next a119 (hpI h112 a13 (y3 + (1 : Int32)).toNatClampNeg) (hpI h112 a13 (y3 + (nI 2)).toNatClampNeg) h112) fun v124 h122 => if v114 = v124 then (some (.inl ((y3 + (nI 4)), h122))) else (some (.inr (.inr ((0 : Int32), h122)))))))))))) else if ((hpI h a13 y3.toNatClampNeg) &&& (nI 31)) = (nI 5) then (dr y1 fun a128 => gd (isK h a128 0) (cl (f_X_commit E a128 h) fun v133 h131 => dr y2 fun a135 => gd (isK h131 a135 8) (cl (f_M_commit a135 h131) fun v140 h138 => if v133 = v140 then (some (.inl ((y3 + (nI 4)), h138))) else (some (.inr (.inr ((0 : Int32), h138))))))) else if ((hpI h a13 y3.toNatClampNeg) &&& (nI 31)) = (nI 6) then (gd (inb (y3 + (1 : Int32)) (hpL h a13)) (dr y1 fun a145 => gd (isK h a145 0) (cl (f_X_rollback E a145 (hpI h a13 (y3 + (1 : Int32)).toNatClampNeg) h) fun v150 h148 => gd (isA h148 a13 0) (gd (inb (y3 + (1 : Int32)) (hpL h148 a13)) (dr y2 fun a154 => gd (isK h148 a154 8) (cl (f_M_rollback a154 (hpI h148 a13 (y3 + (1 : Int32)).toNatClampNeg) h148) fun v159 h157 => if v150 = v159 then (some (.inl ((y3 + (nI 4)), h157))) else (some (.inr (.inr ((0 : Int32), h157)))))))))) else if ((hpI h a13 y3.toNatClampNeg) &&& (nI 31)) = (nI 7) then (gd (inb (y3 + (1 : Int32)) (hpL h a13)) (dr y1 fun a164 => gd (isK h a164 0) (cl (f_X_pin a164 (hpI h a13 (y3 + (1 : Int32)).toNatClampNeg) h) fun v169 h167 => gd (isA h167 a13 0) (gd (inb (y3 + (1 : Int32)) (hpL h167 a13)) (dr y2 fun a173 => gd (isK h167 a173 8) (cl (f_M_pin a173 (hpI h167 a13 (y3 + (1 : Int32)).toNatClampNeg) h167) fun v178 h176 => if v169 = v178 then (some (.inl ((y3 + (nI 4)), h176))) else (some (.inr (.inr ((0 : Int32), h176)))))))))) else if ((hpI h a13 y3.toNatClampNeg) &&& (nI 31)) = (nI 8) then (gd (inb (y3 + (1 : Int32)) (hpL h a13)) (dr y1 fun a183 => gd (isK h a183 0) (cl (f_X_unpin a183 (hpI h a13 (y3 + (1 : Int32)).toNatClampNeg) h) fun v188 h186 => gd (isA h186 a13 0) (gd (inb (y3 + (1 : Int32)) (hpL h186 a13)) (dr y2 fun a192 => gd (isK h186 a192 8) (cl (f_M_unpin a192 (hpI h186 a13 (y3 + (1 : Int32)).toNatClampNeg) h186) fun v197 h195 => if v188 = v197 then (some (.inl ((y3 + (nI 4)), h195))) else (some (.inr (.inr ((0 : Int32), h195)))))))))) else if ((hpI h a13 y3.toNatClampNeg) &&& (nI 31)) = (nI 9) then (gd (inb (y3 + (1 : Int32)) (hpL h a13)) (dr y1 fun a202 => gd (isK h a202 0) (cl (f_X_hold a202 (hpI h a13 (y3 + (1 : Int32)).toNatClampNeg) h) fun v207 h205 => gd (isA h205 a13 0) (gd (inb (y3 + (1 : Int32)) (hpL h205 a13)) (dr y2 fun a211 => gd (isK h205 a211 8) (cl (f_M_hold a211 (hpI h205 a13 (y3 + (1 : Int32)).toNatClampNeg) h205) fun v216 h214 => if v207 = v216 then (some (.inl ((y3 + (nI 4)), h214))) else (some (.inr (.inr ((0 : Int32), h214)))))))))) else if ((hpI h a13 y3.toNatClampNeg) &&& (nI 31)) = (nI 10) then (dr y1 fun a220 => gd (isK h a220 0) (cl (f_X_sync a220 h) fun v225 h223 => dr y2 fun a227 => gd (isK h223 a227 8) (cl (f_M_sync a227 h223) fun v232 h230 => if v225 = v232 then (some (.inl ((y3 + (nI 4)), h230))) else (some (.inr (.inr ((0 : Int32), h230))))))) else if ((hpI h a13 y3.toNatClampNeg) &&& (nI 31)) = (nI 11) then (gd (inb (y3 + (1 : Int32)) (hpL h a13)) (dr y1 fun a237 => gd (isK h a237 0) (cl (f_X_compact a237 (hpI h a13 (y3 + (1 : Int32)).toNatClampNeg) h) fun v242 h240 => gd (isA h240 a13 0) (gd (inb (y3 + (1 : Int32)) (hpL h240 a13)) (dr y2 fun a246 => gd (isK h240 a246 8) (cl (f_M_compact a246 (hpI h240 a13 (y3 + (1 : Int32)).toNatClampNeg) h240) fun v251 h249 => if v242 = v251 then (some (.inl ((y3 + (nI 4)), h249))) else (some (.inr (.inr ((0 : Int32), h249)))))))))) else if ((hpI h a13 y3.toNatClampNeg) &&& (nI 31)) = (nI 12) then (gd (inb (y3 + (1 : Int32)) (hpL h a13)) (gd (inb (y3 + (nI 2)) (hpL h a13)) (dr y1 fun a257 => gd (isK h a257 0) (cl (f_X_crash E a257 (hpI h a13 (y3 + (1 : Int32)).toNatClampNeg) (hpI h a13 (y3 + (nI 2)).toNatClampNeg) h) fun v262 h260 => gd (isA h260 a13 0) (gd (inb (y3 + (1 : Int32)) (hpL h260 a13)) (gd (inb (y3 + (nI 2)) (hpL h260 a13)) (dr y2 fun a267 => gd (isK h260 a267 8) (cl (f_M_crash a267 (hpI h260 a13 (y3 + (1 : Int32)).toNatClampNeg) (hpI h260 a13 (y3 + (nI 2)).toNatClampNeg) h260) fun v272 h270 => if v262 = v272 then (some (.inl ((y3 + (nI 4)), h270))) else (some (.inr (.inr ((0 : Int32), h270)))))))))))) else if ((hpI h a13 y3.toNatClampNeg) &&& (nI 31)) = (nI 13) then (gd (inb (y3 + (1 : Int32)) (hpL h a13)) (gd (inb (y3 + (nI 2)) (hpL h a13)) (dr y1 fun a278 => gd (isK h a278 0) (cl (f_X_chunk a278 (hpI h a13 (y3 + (1 : Int32)).toNatClampNeg) (hpI h a13 (y3 + (nI 2)).toNatClampNeg) h) fun v283 h281 => gd (isA h281 a13 0) (gd (inb (y3 + (1 : Int32)) (hpL h281 a13)) (gd (inb (y3 + (nI 2)) (hpL h281 a13)) (dr y2 fun a288 => gd (isK h281 a288 8) (cl (f_M_chunk a288 (hpI h281 a13 (y3 + (1 : Int32)).toNatClampNeg) (hpI h281 a13 (y3 + (nI 2)).toNatClampNeg) h281) fun v293 h291 => if v283 = v293 then (some (.inl ((y3 + (nI 4)), h291))) else (some (.inr (.inr ((0 : Int32), h291)))))))))))) else if ((hpI h a13 y3.toNatClampNeg) &&& (nI 31)) = (nI 14) then (gd (inb (y3 + (1 : Int32)) (hpL h a13)) (gd (inb (y3 + (nI 2)) (hpL h a13)) (dr y1 fun a299 => gd (isK h a299 0) (cl (f_X_block a299 (hpI h a13 (y3 + (1 : Int32)).toNatClampNeg) (hpI h a13 (y3 + (nI 2)).toNatClampNeg) h) fun v304 h302 => gd (isA h302 a13 0) (gd (inb (y3 + (1 : Int32)) (hpL h302 a13)) (gd (inb (y3 + (nI 2)) (hpL h302 a13)) (dr y2 fun a309 => gd (isK h302 a309 8) (cl (f_M_block a309 (hpI h302 a13 (y3 + (1 : Int32)).toNatClampNeg) (hpI h302 a13 (y3 + (nI 2)).toNatClampNeg) h302) fun v314 h312 => if v304 = v314 then (some (.inl ((y3 + (nI 4)), h312))) else (some (.inr (.inr ((0 : Int32), h312)))))))))))) else if ((hpI h a13 y3.toNatClampNeg) &&& (nI 31)) = (nI 15) then (gd (inb (y3 + (1 : Int32)) (hpL h a13)) (dr y1 fun a319 => gd (isK h a319 0) (cl (f_X_kept a319 (hpI h a13 (y3 + (1 : Int32)).toNatClampNeg) h) fun v324 h322 => gd (isA h322 a13 0) (gd (inb (y3 + (1 : Int32)) (hpL h322 a13)) (dr y2 fun a328 => gd (isK h322 a328 8) (cl (f_M_kept a328 (hpI h322 a13 (y3 + (1 : Int32)).toNatClampNeg) h322) fun v333 h331 => if v324 = v333 then (some (.inl ((y3 + (nI 4)), h331))) else (some (.inr (.inr ((0 : Int32), h331)))))))))) else if ((hpI h a13 y3.toNatClampNeg) &&& (nI 31)) = (nI 16) then (gd (inb (y3 + (1 : Int32)) (hpL h a13)) (dr y1 fun a338 => gd (isK h a338 0) (cl (f_X_count a338 (hpI h a13 (y3 + (1 : Int32)).toNatClampNeg) h) fun v343 h341 => gd (isA h341 a13 0) (gd (inb (y3 + (1 : Int32)) (hpL h341 a13)) (dr y2 fun a347 => gd (isK h341 a347 8) (cl (f_M_count a347 (hpI h341 a13 (y3 + (1 : Int32)).toNatClampNeg) h341) fun v352 h350 => if v343 = v352 then (some (.inl ((y3 + (nI 4)), h350))) else (some (.inr (.inr ((0 : Int32), h350)))))))))) else (some (.inl ((y3 + (nI 4)), h))))))
set_option maxRecDepth 100000 in
set_option maxHeartbeats 4000000 in
theorem zb_law_18 {l : Launch} {C : Ct} {mi : Nat} {y0 : Option Nat} {y1 : Option Nat} {y2 : Option Nat} {y3 : Int32} {h h' : Hp} {v : Int32} {q : ((Int32 × Hp) ⊕ ((Hp) ⊕ (Int32 × Hp)))} (hf : b_law_18 (cE C, mi) y0 y1 y2 y3 h = some q) (kc : ∀ s, q = .inl s → Z l C mi m_law 9 18 [(0, vr y0), (1, vr y1), (2, vr y2), (3, vi s.1)] [] s.2 (some (vi v)) h') (ke : ∀ x, q = .inr (.inl x) → Z l C mi m_law 9 595 [] [] x (some (vi v)) h') (kr : ∀ rv rh, q = .inr (.inr (rv, rh)) → v = rv ∧ h' = rh) : Z l C mi m_law 9 18 [(0, vr y0), (1, vr y1), (2, vr y2), (3, vi y3)] [] h (some (vi v)) h' := by
  unfold b_law_18 at hf
  refine z_iload_n 3 d_law_18 rfl rfl ?_
  refine z_aload_n 0 d_law_19 rfl rfl ?_
  obtain ⟨a13, e14, hf⟩ := dr_some hf
  obtain ⟨g15, hf⟩ := gd_some hf
  refine z_alen d_law_20 e14 (isA_eq g15).1 ?_
  refine z_iconst (v := (nI 4)) d_law_21 (by decide) ?_
  refine z_isub d_law_22 ?_
  refine z_icmp_gt (tgt := 595) d_law_23 (by decide) (fun c16 => ?_) (fun c16 => ?_)
  · rw [if_pos c16] at hf
    refine z_ls [] rfl ?_
    exact ke h (Option.some.inj hf).symm
  · rw [if_neg c16] at hf
    refine z_aload_n 0 d_law_26 rfl rfl ?_
    refine z_iload_n 3 d_law_27 rfl rfl ?_
    obtain ⟨g17, hf⟩ := gd_some hf
    refine z_iald d_law_28 e14 (isA_eq g15).1 (isA_eq g15).2 (inb_vp g17) ?_
    refine z_bipush (v := (nI 31)) d_law_29 (by decide) ?_
    refine z_iand d_law_31 ?_
    by_cases c18 : ((hpI h a13 y3.toNatClampNeg) &&& (nI 31)) = (0 : Int32)
    · rw [if_pos c18] at hf
      refine z_tabIn (off := 84) (tgt := 116) d_law_32 (by rw [c18]; decide) (by rw [c18]; decide) (by rw [c18]; rfl) (by decide) ?_
      refine z_aload_n 1 d_law_116 rfl rfl ?_
      refine z_aload_n 0 d_law_117 rfl rfl ?_
      refine z_iload_n 3 d_law_118 rfl rfl ?_
      refine z_iconst (v := (1 : Int32)) d_law_119 (by decide) ?_
      refine z_iadd d_law_120 ?_
      obtain ⟨g19, hf⟩ := gd_some hf
      refine z_iald d_law_121 e14 (isA_eq g15).1 (isA_eq g15).2 (inb_vp g19) ?_
      refine z_aload_n 0 d_law_122 rfl rfl ?_
      refine z_iload_n 3 d_law_123 rfl rfl ?_
      refine z_iconst (v := (nI 2)) d_law_124 (by decide) ?_
      refine z_iadd d_law_125 ?_
      obtain ⟨g20, hf⟩ := gd_some hf
      refine z_iald d_law_126 e14 (isA_eq g15).1 (isA_eq g15).2 (inb_vp g20) ?_
      refine z_aload_n 0 d_law_127 rfl rfl ?_
      refine z_iload_n 3 d_law_128 rfl rfl ?_
      refine z_iconst (v := (nI 3)) d_law_129 (by decide) ?_
      refine z_iadd d_law_130 ?_
      obtain ⟨g21, hf⟩ := gd_some hf
      refine z_iald d_law_131 e14 (isA_eq g15).1 (isA_eq g15).2 (inb_vp g21) ?_
      obtain ⟨a22, e23, hf⟩ := dr_some hf
      obtain ⟨g24, hf⟩ := gd_some hf
      obtain ⟨v27, h25, ec26, hf⟩ := cl_some hf
      refine z_callVx e23 (c_X_put ec26) d_law_132 cw_X_put lk_Law_13 im_X_put se_X_put (kc_K (isK_eq g24) kc_0) ⟨by decide, by decide⟩ (Nat.le_of_ble_eq_true rfl) rfl ?_
      refine z_aload_n 2 d_law_135 rfl rfl ?_
      refine z_aload_n 0 d_law_136 rfl rfl ?_
      refine z_iload_n 3 d_law_137 rfl rfl ?_
      refine z_iconst (v := (1 : Int32)) d_law_138 (by decide) ?_
      refine z_iadd d_law_139 ?_
      obtain ⟨g29, hf⟩ := gd_some hf
      obtain ⟨g30, hf⟩ := gd_some hf
      refine z_iald d_law_140 e14 (isA_eq g29).1 (isA_eq g29).2 (inb_vp g30) ?_
      refine z_aload_n 0 d_law_141 rfl rfl ?_
      refine z_iload_n 3 d_law_142 rfl rfl ?_
      refine z_iconst (v := (nI 2)) d_law_143 (by decide) ?_
      refine z_iadd d_law_144 ?_
      obtain ⟨g31, hf⟩ := gd_some hf
      refine z_iald d_law_145 e14 (isA_eq g29).1 (isA_eq g29).2 (inb_vp g31) ?_
      refine z_aload_n 0 d_law_146 rfl rfl ?_
      refine z_iload_n 3 d_law_147 rfl rfl ?_
      refine z_iconst (v := (nI 3)) d_law_148 (by decide) ?_
      refine z_iadd d_law_149 ?_
      obtain ⟨g32, hf⟩ := gd_some hf
      refine z_iald d_law_150 e14 (isA_eq g29).1 (isA_eq g29).2 (inb_vp g32) ?_
      obtain ⟨a33, e34, hf⟩ := dr_some hf
      obtain ⟨g35, hf⟩ := gd_some hf
      obtain ⟨v38, h36, ec37, hf⟩ := cl_some hf
      refine z_callVx e34 (c_M_put ec37) d_law_151 cw_M_put lk_Law_17 im_M_put se_M_put (kc_K (isK_eq g35) kc_8) ⟨by decide, by decide⟩ (Nat.le_of_ble_eq_true rfl) rfl ?_
      refine z_icmp_eq (tgt := 589) d_law_154 (by decide) (fun c40 => ?_) (fun c40 => ?_)
      · rw [if_pos c40] at hf
        refine z_iinc (ls2 := [(3, vi (y3 + (nI 4))), (0, vr y0), (1, vr y1), (2, vr y2)]) 3 d_law_589 rfl rfl (by decide) rfl ?_
        refine z_goto (tgt := 18) d_law_592 (by decide) ?_
        refine z_ls [1, 2, 3, 0] rfl ?_
        exact kc ((y3 + (nI 4)), h36) (Option.some.inj hf).symm
      · rw [if_neg c40] at hf
        refine z_iconst (v := (0 : Int32)) d_law_157 (by decide) ?_
        obtain ⟨rfl, rfl⟩ := kr _ _ (Option.some.inj hf).symm
        exact z_ret d_law_158 rfl
    rw [if_neg c18] at hf
    by_cases c41 : ((hpI h a13 y3.toNatClampNeg) &&& (nI 31)) = (1 : Int32)
    · rw [if_pos c41] at hf
      refine z_tabIn (off := 127) (tgt := 159) d_law_32 (by rw [c41]; decide) (by rw [c41]; decide) (by rw [c41]; rfl) (by decide) ?_
      refine z_aload_n 1 d_law_159 rfl rfl ?_
      refine z_aload_n 0 d_law_160 rfl rfl ?_
      refine z_iload_n 3 d_law_161 rfl rfl ?_
      refine z_iconst (v := (1 : Int32)) d_law_162 (by decide) ?_
      refine z_iadd d_law_163 ?_
      obtain ⟨g42, hf⟩ := gd_some hf
      refine z_iald d_law_164 e14 (isA_eq g15).1 (isA_eq g15).2 (inb_vp g42) ?_
      refine z_aload_n 0 d_law_165 rfl rfl ?_
      refine z_iload_n 3 d_law_166 rfl rfl ?_
      refine z_iconst (v := (nI 2)) d_law_167 (by decide) ?_
      refine z_iadd d_law_168 ?_
      obtain ⟨g43, hf⟩ := gd_some hf
      refine z_iald d_law_169 e14 (isA_eq g15).1 (isA_eq g15).2 (inb_vp g43) ?_
      obtain ⟨a44, e45, hf⟩ := dr_some hf
      obtain ⟨g46, hf⟩ := gd_some hf
      obtain ⟨v49, h47, ec48, hf⟩ := cl_some hf
      refine z_callVx e45 (c_X_remove ec48) d_law_170 cw_X_remove lk_Law_18 im_X_remove se_X_remove (kc_K (isK_eq g46) kc_0) ⟨by decide, by decide⟩ (Nat.le_of_ble_eq_true rfl) rfl ?_
      refine z_aload_n 2 d_law_173 rfl rfl ?_
      refine z_aload_n 0 d_law_174 rfl rfl ?_
      refine z_iload_n 3 d_law_175 rfl rfl ?_
      refine z_iconst (v := (1 : Int32)) d_law_176 (by decide) ?_
      refine z_iadd d_law_177 ?_
      obtain ⟨g51, hf⟩ := gd_some hf
      obtain ⟨g52, hf⟩ := gd_some hf
      refine z_iald d_law_178 e14 (isA_eq g51).1 (isA_eq g51).2 (inb_vp g52) ?_
      refine z_aload_n 0 d_law_179 rfl rfl ?_
      refine z_iload_n 3 d_law_180 rfl rfl ?_
      refine z_iconst (v := (nI 2)) d_law_181 (by decide) ?_
      refine z_iadd d_law_182 ?_
      obtain ⟨g53, hf⟩ := gd_some hf
      refine z_iald d_law_183 e14 (isA_eq g51).1 (isA_eq g51).2 (inb_vp g53) ?_
      obtain ⟨a54, e55, hf⟩ := dr_some hf
      obtain ⟨g56, hf⟩ := gd_some hf
      obtain ⟨v59, h57, ec58, hf⟩ := cl_some hf
      refine z_callVx e55 (c_M_remove ec58) d_law_184 cw_M_remove lk_Law_22 im_M_remove se_M_remove (kc_K (isK_eq g56) kc_8) ⟨by decide, by decide⟩ (Nat.le_of_ble_eq_true rfl) rfl ?_
      refine z_icmp_eq (tgt := 589) d_law_187 (by decide) (fun c61 => ?_) (fun c61 => ?_)
      · rw [if_pos c61] at hf
        refine z_iinc (ls2 := [(3, vi (y3 + (nI 4))), (0, vr y0), (1, vr y1), (2, vr y2)]) 3 d_law_589 rfl rfl (by decide) rfl ?_
        refine z_goto (tgt := 18) d_law_592 (by decide) ?_
        refine z_ls [1, 2, 3, 0] rfl ?_
        exact kc ((y3 + (nI 4)), h57) (Option.some.inj hf).symm
      · rw [if_neg c61] at hf
        refine z_iconst (v := (0 : Int32)) d_law_190 (by decide) ?_
        obtain ⟨rfl, rfl⟩ := kr _ _ (Option.some.inj hf).symm
        exact z_ret d_law_191 rfl
    rw [if_neg c41] at hf
    by_cases c62 : ((hpI h a13 y3.toNatClampNeg) &&& (nI 31)) = (nI 2)
    · rw [if_pos c62] at hf
      refine z_tabIn (off := 160) (tgt := 192) d_law_32 (by rw [c62]; decide) (by rw [c62]; decide) (by rw [c62]; rfl) (by decide) ?_
      refine z_aload_n 1 d_law_192 rfl rfl ?_
      refine z_aload_n 0 d_law_193 rfl rfl ?_
      refine z_iload_n 3 d_law_194 rfl rfl ?_
      refine z_iconst (v := (1 : Int32)) d_law_195 (by decide) ?_
      refine z_iadd d_law_196 ?_
      obtain ⟨g63, hf⟩ := gd_some hf
      refine z_iald d_law_197 e14 (isA_eq g15).1 (isA_eq g15).2 (inb_vp g63) ?_
      refine z_aload_n 0 d_law_198 rfl rfl ?_
      refine z_iload_n 3 d_law_199 rfl rfl ?_
      refine z_iconst (v := (nI 2)) d_law_200 (by decide) ?_
      refine z_iadd d_law_201 ?_
      obtain ⟨g64, hf⟩ := gd_some hf
      refine z_iald d_law_202 e14 (isA_eq g15).1 (isA_eq g15).2 (inb_vp g64) ?_
      obtain ⟨a65, e66, hf⟩ := dr_some hf
      obtain ⟨g67, hf⟩ := gd_some hf
      obtain ⟨v70, h68, ec69, hf⟩ := cl_some hf
      refine z_callVx e66 (c_X_get ec69) d_law_203 cw_X_get lk_Law_23 im_X_get se_X_get (kc_K (isK_eq g67) kc_0) ⟨by decide, by decide⟩ (Nat.le_of_ble_eq_true rfl) rfl ?_
      refine z_aload_n 2 d_law_206 rfl rfl ?_
      refine z_aload_n 0 d_law_207 rfl rfl ?_
      refine z_iload_n 3 d_law_208 rfl rfl ?_
      refine z_iconst (v := (1 : Int32)) d_law_209 (by decide) ?_
      refine z_iadd d_law_210 ?_
      obtain ⟨g72, hf⟩ := gd_some hf
      obtain ⟨g73, hf⟩ := gd_some hf
      refine z_iald d_law_211 e14 (isA_eq g72).1 (isA_eq g72).2 (inb_vp g73) ?_
      refine z_aload_n 0 d_law_212 rfl rfl ?_
      refine z_iload_n 3 d_law_213 rfl rfl ?_
      refine z_iconst (v := (nI 2)) d_law_214 (by decide) ?_
      refine z_iadd d_law_215 ?_
      obtain ⟨g74, hf⟩ := gd_some hf
      refine z_iald d_law_216 e14 (isA_eq g72).1 (isA_eq g72).2 (inb_vp g74) ?_
      obtain ⟨a75, e76, hf⟩ := dr_some hf
      obtain ⟨g77, hf⟩ := gd_some hf
      obtain ⟨v80, h78, ec79, hf⟩ := cl_some hf
      refine z_callVx e76 (c_M_get ec79) d_law_217 cw_M_get lk_Law_27 im_M_get se_M_get (kc_K (isK_eq g77) kc_8) ⟨by decide, by decide⟩ (Nat.le_of_ble_eq_true rfl) rfl ?_
      refine z_lcmp d_law_220 ?_
      refine z_if_eq (tgt := 589) d_law_221 (by decide) (fun c82 => ?_) (fun c82 => ?_)
      · rw [if_pos c82] at hf
        refine z_iinc (ls2 := [(3, vi (y3 + (nI 4))), (0, vr y0), (1, vr y1), (2, vr y2)]) 3 d_law_589 rfl rfl (by decide) rfl ?_
        refine z_goto (tgt := 18) d_law_592 (by decide) ?_
        refine z_ls [1, 2, 3, 0] rfl ?_
        exact kc ((y3 + (nI 4)), h78) (Option.some.inj hf).symm
      · rw [if_neg c82] at hf
        refine z_iconst (v := (0 : Int32)) d_law_224 (by decide) ?_
        obtain ⟨rfl, rfl⟩ := kr _ _ (Option.some.inj hf).symm
        exact z_ret d_law_225 rfl
    rw [if_neg c62] at hf
    by_cases c83 : ((hpI h a13 y3.toNatClampNeg) &&& (nI 31)) = (nI 3)
    · rw [if_pos c83] at hf
      refine z_tabIn (off := 194) (tgt := 226) d_law_32 (by rw [c83]; decide) (by rw [c83]; decide) (by rw [c83]; rfl) (by decide) ?_
      refine z_aload_n 1 d_law_226 rfl rfl ?_
      refine z_aload_n 0 d_law_227 rfl rfl ?_
      refine z_iload_n 3 d_law_228 rfl rfl ?_
      refine z_iconst (v := (1 : Int32)) d_law_229 (by decide) ?_
      refine z_iadd d_law_230 ?_
      obtain ⟨g84, hf⟩ := gd_some hf
      refine z_iald d_law_231 e14 (isA_eq g15).1 (isA_eq g15).2 (inb_vp g84) ?_
      refine z_aload_n 0 d_law_232 rfl rfl ?_
      refine z_iload_n 3 d_law_233 rfl rfl ?_
      refine z_iconst (v := (nI 2)) d_law_234 (by decide) ?_
      refine z_iadd d_law_235 ?_
      obtain ⟨g85, hf⟩ := gd_some hf
      refine z_iald d_law_236 e14 (isA_eq g15).1 (isA_eq g15).2 (inb_vp g85) ?_
      refine z_aload_n 0 d_law_237 rfl rfl ?_
      refine z_iload_n 3 d_law_238 rfl rfl ?_
      refine z_iconst (v := (nI 3)) d_law_239 (by decide) ?_
      refine z_iadd d_law_240 ?_
      obtain ⟨g86, hf⟩ := gd_some hf
      refine z_iald d_law_241 e14 (isA_eq g15).1 (isA_eq g15).2 (inb_vp g86) ?_
      obtain ⟨a87, e88, hf⟩ := dr_some hf
      obtain ⟨g89, hf⟩ := gd_some hf
      obtain ⟨v92, h90, ec91, hf⟩ := cl_some hf
      refine z_callVx e88 (c_X_at ec91) d_law_242 cw_X_at lk_Law_28 im_X_at se_X_at (kc_K (isK_eq g89) kc_0) ⟨by decide, by decide⟩ (Nat.le_of_ble_eq_true rfl) rfl ?_
      refine z_aload_n 2 d_law_245 rfl rfl ?_
      refine z_aload_n 0 d_law_246 rfl rfl ?_
      refine z_iload_n 3 d_law_247 rfl rfl ?_
      refine z_iconst (v := (1 : Int32)) d_law_248 (by decide) ?_
      refine z_iadd d_law_249 ?_
      obtain ⟨g94, hf⟩ := gd_some hf
      obtain ⟨g95, hf⟩ := gd_some hf
      refine z_iald d_law_250 e14 (isA_eq g94).1 (isA_eq g94).2 (inb_vp g95) ?_
      refine z_aload_n 0 d_law_251 rfl rfl ?_
      refine z_iload_n 3 d_law_252 rfl rfl ?_
      refine z_iconst (v := (nI 2)) d_law_253 (by decide) ?_
      refine z_iadd d_law_254 ?_
      obtain ⟨g96, hf⟩ := gd_some hf
      refine z_iald d_law_255 e14 (isA_eq g94).1 (isA_eq g94).2 (inb_vp g96) ?_
      refine z_aload_n 0 d_law_256 rfl rfl ?_
      refine z_iload_n 3 d_law_257 rfl rfl ?_
      refine z_iconst (v := (nI 3)) d_law_258 (by decide) ?_
      refine z_iadd d_law_259 ?_
      obtain ⟨g97, hf⟩ := gd_some hf
      refine z_iald d_law_260 e14 (isA_eq g94).1 (isA_eq g94).2 (inb_vp g97) ?_
      obtain ⟨a98, e99, hf⟩ := dr_some hf
      obtain ⟨g100, hf⟩ := gd_some hf
      obtain ⟨v103, h101, ec102, hf⟩ := cl_some hf
      refine z_callVx e99 (c_M_at ec102) d_law_261 cw_M_at lk_Law_32 im_M_at se_M_at (kc_K (isK_eq g100) kc_8) ⟨by decide, by decide⟩ (Nat.le_of_ble_eq_true rfl) rfl ?_
      refine z_lcmp d_law_264 ?_
      refine z_if_eq (tgt := 589) d_law_265 (by decide) (fun c105 => ?_) (fun c105 => ?_)
      · rw [if_pos c105] at hf
        refine z_iinc (ls2 := [(3, vi (y3 + (nI 4))), (0, vr y0), (1, vr y1), (2, vr y2)]) 3 d_law_589 rfl rfl (by decide) rfl ?_
        refine z_goto (tgt := 18) d_law_592 (by decide) ?_
        refine z_ls [1, 2, 3, 0] rfl ?_
        exact kc ((y3 + (nI 4)), h101) (Option.some.inj hf).symm
      · rw [if_neg c105] at hf
        refine z_iconst (v := (0 : Int32)) d_law_268 (by decide) ?_
        obtain ⟨rfl, rfl⟩ := kr _ _ (Option.some.inj hf).symm
        exact z_ret d_law_269 rfl
    rw [if_neg c83] at hf
    by_cases c106 : ((hpI h a13 y3.toNatClampNeg) &&& (nI 31)) = (nI 4)
    · rw [if_pos c106] at hf
      refine z_tabIn (off := 238) (tgt := 270) d_law_32 (by rw [c106]; decide) (by rw [c106]; decide) (by rw [c106]; rfl) (by decide) ?_
      refine z_aload_n 1 d_law_270 rfl rfl ?_
      refine z_aload_n 0 d_law_271 rfl rfl ?_
      refine z_iload_n 3 d_law_272 rfl rfl ?_
      refine z_iconst (v := (1 : Int32)) d_law_273 (by decide) ?_
      refine z_iadd d_law_274 ?_
      obtain ⟨g107, hf⟩ := gd_some hf
      refine z_iald d_law_275 e14 (isA_eq g15).1 (isA_eq g15).2 (inb_vp g107) ?_
      refine z_aload_n 0 d_law_276 rfl rfl ?_
      refine z_iload_n 3 d_law_277 rfl rfl ?_
      refine z_iconst (v := (nI 2)) d_law_278 (by decide) ?_
      refine z_iadd d_law_279 ?_
      obtain ⟨g108, hf⟩ := gd_some hf
      refine z_iald d_law_280 e14 (isA_eq g15).1 (isA_eq g15).2 (inb_vp g108) ?_
      obtain ⟨a109, e110, hf⟩ := dr_some hf
      obtain ⟨g111, hf⟩ := gd_some hf
      obtain ⟨v114, h112, ec113, hf⟩ := cl_some hf
      refine z_callVx e110 (c_X_next ec113) d_law_281 cw_X_next lk_Law_33 im_X_next se_X_next (kc_K (isK_eq g111) kc_0) ⟨by decide, by decide⟩ (Nat.le_of_ble_eq_true rfl) rfl ?_
      refine z_aload_n 2 d_law_284 rfl rfl ?_
      refine z_aload_n 0 d_law_285 rfl rfl ?_
      refine z_iload_n 3 d_law_286 rfl rfl ?_
      refine z_iconst (v := (1 : Int32)) d_law_287 (by decide) ?_
      refine z_iadd d_law_288 ?_
      obtain ⟨g116, hf⟩ := gd_some hf
      obtain ⟨g117, hf⟩ := gd_some hf
      refine z_iald d_law_289 e14 (isA_eq g116).1 (isA_eq g116).2 (inb_vp g117) ?_
      refine z_aload_n 0 d_law_290 rfl rfl ?_
      refine z_iload_n 3 d_law_291 rfl rfl ?_
      refine z_iconst (v := (nI 2)) d_law_292 (by decide) ?_
      refine z_iadd d_law_293 ?_
      obtain ⟨g118, hf⟩ := gd_some hf
      refine z_iald d_law_294 e14 (isA_eq g116).1 (isA_eq g116).2 (inb_vp g118) ?_
      obtain ⟨a119, e120, hf⟩ := dr_some hf
      obtain ⟨g121, hf⟩ := gd_some hf
      obtain ⟨v124, h122, ec123, hf⟩ := cl_some hf
      refine z_callVx e120 (c_M_next ec123) d_law_295 cw_M_next lk_Law_36 im_M_next se_M_next (kc_K (isK_eq g121) kc_8) ⟨by decide, by decide⟩ (Nat.le_of_ble_eq_true rfl) rfl ?_
      refine z_icmp_eq (tgt := 589) d_law_298 (by decide) (fun c126 => ?_) (fun c126 => ?_)
      · rw [if_pos c126] at hf
        refine z_iinc (ls2 := [(3, vi (y3 + (nI 4))), (0, vr y0), (1, vr y1), (2, vr y2)]) 3 d_law_589 rfl rfl (by decide) rfl ?_
        refine z_goto (tgt := 18) d_law_592 (by decide) ?_
        refine z_ls [1, 2, 3, 0] rfl ?_
        exact kc ((y3 + (nI 4)), h122) (Option.some.inj hf).symm
      · rw [if_neg c126] at hf
        refine z_iconst (v := (0 : Int32)) d_law_301 (by decide) ?_
        obtain ⟨rfl, rfl⟩ := kr _ _ (Option.some.inj hf).symm
        exact z_ret d_law_302 rfl
    rw [if_neg c106] at hf
    by_cases c127 : ((hpI h a13 y3.toNatClampNeg) &&& (nI 31)) = (nI 5)
    · rw [if_pos c127] at hf
      refine z_tabIn (off := 271) (tgt := 303) d_law_32 (by rw [c127]; decide) (by rw [c127]; decide) (by rw [c127]; rfl) (by decide) ?_
      refine z_aload_n 1 d_law_303 rfl rfl ?_
      obtain ⟨a128, e129, hf⟩ := dr_some hf
      obtain ⟨g130, hf⟩ := gd_some hf
      obtain ⟨v133, h131, ec132, hf⟩ := cl_some hf
      refine z_callVx e129 (c_X_commit ec132) d_law_304 cw_X_commit lk_Law_37 im_X_commit se_X_commit (kc_K (isK_eq g130) kc_0) ⟨by decide, by decide⟩ (Nat.le_of_ble_eq_true rfl) rfl ?_
      refine z_aload_n 2 d_law_307 rfl rfl ?_
      obtain ⟨a135, e136, hf⟩ := dr_some hf
      obtain ⟨g137, hf⟩ := gd_some hf
      obtain ⟨v140, h138, ec139, hf⟩ := cl_some hf
      refine z_callVx e136 (c_M_commit ec139) d_law_308 cw_M_commit lk_Law_41 im_M_commit se_M_commit (kc_K (isK_eq g137) kc_8) ⟨by decide, by decide⟩ (Nat.le_of_ble_eq_true rfl) rfl ?_
      refine z_icmp_eq (tgt := 589) d_law_311 (by decide) (fun c142 => ?_) (fun c142 => ?_)
      · rw [if_pos c142] at hf
        refine z_iinc (ls2 := [(3, vi (y3 + (nI 4))), (0, vr y0), (1, vr y1), (2, vr y2)]) 3 d_law_589 rfl rfl (by decide) rfl ?_
        refine z_goto (tgt := 18) d_law_592 (by decide) ?_
        refine z_ls [1, 2, 3, 0] rfl ?_
        exact kc ((y3 + (nI 4)), h138) (Option.some.inj hf).symm
      · rw [if_neg c142] at hf
        refine z_iconst (v := (0 : Int32)) d_law_314 (by decide) ?_
        obtain ⟨rfl, rfl⟩ := kr _ _ (Option.some.inj hf).symm
        exact z_ret d_law_315 rfl
    rw [if_neg c127] at hf
    by_cases c143 : ((hpI h a13 y3.toNatClampNeg) &&& (nI 31)) = (nI 6)
    · rw [if_pos c143] at hf
      refine z_tabIn (off := 284) (tgt := 316) d_law_32 (by rw [c143]; decide) (by rw [c143]; decide) (by rw [c143]; rfl) (by decide) ?_
      refine z_aload_n 1 d_law_316 rfl rfl ?_
      refine z_aload_n 0 d_law_317 rfl rfl ?_
      refine z_iload_n 3 d_law_318 rfl rfl ?_
      refine z_iconst (v := (1 : Int32)) d_law_319 (by decide) ?_
      refine z_iadd d_law_320 ?_
      obtain ⟨g144, hf⟩ := gd_some hf
      refine z_iald d_law_321 e14 (isA_eq g15).1 (isA_eq g15).2 (inb_vp g144) ?_
      obtain ⟨a145, e146, hf⟩ := dr_some hf
      obtain ⟨g147, hf⟩ := gd_some hf
      obtain ⟨v150, h148, ec149, hf⟩ := cl_some hf
      refine z_callVx e146 (c_X_rollback ec149) d_law_322 cw_X_rollback lk_Law_42 im_X_rollback se_X_rollback (kc_K (isK_eq g147) kc_0) ⟨by decide, by decide⟩ (Nat.le_of_ble_eq_true rfl) rfl ?_
      refine z_aload_n 2 d_law_325 rfl rfl ?_
      refine z_aload_n 0 d_law_326 rfl rfl ?_
      refine z_iload_n 3 d_law_327 rfl rfl ?_
      refine z_iconst (v := (1 : Int32)) d_law_328 (by decide) ?_
      refine z_iadd d_law_329 ?_
      obtain ⟨g152, hf⟩ := gd_some hf
      obtain ⟨g153, hf⟩ := gd_some hf
      refine z_iald d_law_330 e14 (isA_eq g152).1 (isA_eq g152).2 (inb_vp g153) ?_
      obtain ⟨a154, e155, hf⟩ := dr_some hf
      obtain ⟨g156, hf⟩ := gd_some hf
      obtain ⟨v159, h157, ec158, hf⟩ := cl_some hf
      refine z_callVx e155 (c_M_rollback ec158) d_law_331 cw_M_rollback lk_Law_46 im_M_rollback se_M_rollback (kc_K (isK_eq g156) kc_8) ⟨by decide, by decide⟩ (Nat.le_of_ble_eq_true rfl) rfl ?_
      refine z_icmp_eq (tgt := 589) d_law_334 (by decide) (fun c161 => ?_) (fun c161 => ?_)
      · rw [if_pos c161] at hf
        refine z_iinc (ls2 := [(3, vi (y3 + (nI 4))), (0, vr y0), (1, vr y1), (2, vr y2)]) 3 d_law_589 rfl rfl (by decide) rfl ?_
        refine z_goto (tgt := 18) d_law_592 (by decide) ?_
        refine z_ls [1, 2, 3, 0] rfl ?_
        exact kc ((y3 + (nI 4)), h157) (Option.some.inj hf).symm
      · rw [if_neg c161] at hf
        refine z_iconst (v := (0 : Int32)) d_law_337 (by decide) ?_
        obtain ⟨rfl, rfl⟩ := kr _ _ (Option.some.inj hf).symm
        exact z_ret d_law_338 rfl
    rw [if_neg c143] at hf
    by_cases c162 : ((hpI h a13 y3.toNatClampNeg) &&& (nI 31)) = (nI 7)
    · rw [if_pos c162] at hf
      refine z_tabIn (off := 307) (tgt := 339) d_law_32 (by rw [c162]; decide) (by rw [c162]; decide) (by rw [c162]; rfl) (by decide) ?_
      refine z_aload_n 1 d_law_339 rfl rfl ?_
      refine z_aload_n 0 d_law_340 rfl rfl ?_
      refine z_iload_n 3 d_law_341 rfl rfl ?_
      refine z_iconst (v := (1 : Int32)) d_law_342 (by decide) ?_
      refine z_iadd d_law_343 ?_
      obtain ⟨g163, hf⟩ := gd_some hf
      refine z_iald d_law_344 e14 (isA_eq g15).1 (isA_eq g15).2 (inb_vp g163) ?_
      obtain ⟨a164, e165, hf⟩ := dr_some hf
      obtain ⟨g166, hf⟩ := gd_some hf
      obtain ⟨v169, h167, ec168, hf⟩ := cl_some hf
      refine z_callVx e165 (c_X_pin ec168) d_law_345 cw_X_pin lk_Law_47 im_X_pin se_X_pin (kc_K (isK_eq g166) kc_0) ⟨by decide, by decide⟩ (Nat.le_of_ble_eq_true rfl) rfl ?_
      refine z_aload_n 2 d_law_348 rfl rfl ?_
      refine z_aload_n 0 d_law_349 rfl rfl ?_
      refine z_iload_n 3 d_law_350 rfl rfl ?_
      refine z_iconst (v := (1 : Int32)) d_law_351 (by decide) ?_
      refine z_iadd d_law_352 ?_
      obtain ⟨g171, hf⟩ := gd_some hf
      obtain ⟨g172, hf⟩ := gd_some hf
      refine z_iald d_law_353 e14 (isA_eq g171).1 (isA_eq g171).2 (inb_vp g172) ?_
      obtain ⟨a173, e174, hf⟩ := dr_some hf
      obtain ⟨g175, hf⟩ := gd_some hf
      obtain ⟨v178, h176, ec177, hf⟩ := cl_some hf
      refine z_callVx e174 (c_M_pin ec177) d_law_354 cw_M_pin lk_Law_50 im_M_pin se_M_pin (kc_K (isK_eq g175) kc_8) ⟨by decide, by decide⟩ (Nat.le_of_ble_eq_true rfl) rfl ?_
      refine z_icmp_eq (tgt := 589) d_law_357 (by decide) (fun c180 => ?_) (fun c180 => ?_)
      · rw [if_pos c180] at hf
        refine z_iinc (ls2 := [(3, vi (y3 + (nI 4))), (0, vr y0), (1, vr y1), (2, vr y2)]) 3 d_law_589 rfl rfl (by decide) rfl ?_
        refine z_goto (tgt := 18) d_law_592 (by decide) ?_
        refine z_ls [1, 2, 3, 0] rfl ?_
        exact kc ((y3 + (nI 4)), h176) (Option.some.inj hf).symm
      · rw [if_neg c180] at hf
        refine z_iconst (v := (0 : Int32)) d_law_360 (by decide) ?_
        obtain ⟨rfl, rfl⟩ := kr _ _ (Option.some.inj hf).symm
        exact z_ret d_law_361 rfl
    rw [if_neg c162] at hf
    by_cases c181 : ((hpI h a13 y3.toNatClampNeg) &&& (nI 31)) = (nI 8)
    · rw [if_pos c181] at hf
      refine z_tabIn (off := 330) (tgt := 362) d_law_32 (by rw [c181]; decide) (by rw [c181]; decide) (by rw [c181]; rfl) (by decide) ?_
      refine z_aload_n 1 d_law_362 rfl rfl ?_
      refine z_aload_n 0 d_law_363 rfl rfl ?_
      refine z_iload_n 3 d_law_364 rfl rfl ?_
      refine z_iconst (v := (1 : Int32)) d_law_365 (by decide) ?_
      refine z_iadd d_law_366 ?_
      obtain ⟨g182, hf⟩ := gd_some hf
      refine z_iald d_law_367 e14 (isA_eq g15).1 (isA_eq g15).2 (inb_vp g182) ?_
      obtain ⟨a183, e184, hf⟩ := dr_some hf
      obtain ⟨g185, hf⟩ := gd_some hf
      obtain ⟨v188, h186, ec187, hf⟩ := cl_some hf
      refine z_callVx e184 (c_X_unpin ec187) d_law_368 cw_X_unpin lk_Law_51 im_X_unpin se_X_unpin (kc_K (isK_eq g185) kc_0) ⟨by decide, by decide⟩ (Nat.le_of_ble_eq_true rfl) rfl ?_
      refine z_aload_n 2 d_law_371 rfl rfl ?_
      refine z_aload_n 0 d_law_372 rfl rfl ?_
      refine z_iload_n 3 d_law_373 rfl rfl ?_
      refine z_iconst (v := (1 : Int32)) d_law_374 (by decide) ?_
      refine z_iadd d_law_375 ?_
      obtain ⟨g190, hf⟩ := gd_some hf
      obtain ⟨g191, hf⟩ := gd_some hf
      refine z_iald d_law_376 e14 (isA_eq g190).1 (isA_eq g190).2 (inb_vp g191) ?_
      obtain ⟨a192, e193, hf⟩ := dr_some hf
      obtain ⟨g194, hf⟩ := gd_some hf
      obtain ⟨v197, h195, ec196, hf⟩ := cl_some hf
      refine z_callVx e193 (c_M_unpin ec196) d_law_377 cw_M_unpin lk_Law_54 im_M_unpin se_M_unpin (kc_K (isK_eq g194) kc_8) ⟨by decide, by decide⟩ (Nat.le_of_ble_eq_true rfl) rfl ?_
      refine z_icmp_eq (tgt := 589) d_law_380 (by decide) (fun c199 => ?_) (fun c199 => ?_)
      · rw [if_pos c199] at hf
        refine z_iinc (ls2 := [(3, vi (y3 + (nI 4))), (0, vr y0), (1, vr y1), (2, vr y2)]) 3 d_law_589 rfl rfl (by decide) rfl ?_
        refine z_goto (tgt := 18) d_law_592 (by decide) ?_
        refine z_ls [1, 2, 3, 0] rfl ?_
        exact kc ((y3 + (nI 4)), h195) (Option.some.inj hf).symm
      · rw [if_neg c199] at hf
        refine z_iconst (v := (0 : Int32)) d_law_383 (by decide) ?_
        obtain ⟨rfl, rfl⟩ := kr _ _ (Option.some.inj hf).symm
        exact z_ret d_law_384 rfl
    rw [if_neg c181] at hf
    by_cases c200 : ((hpI h a13 y3.toNatClampNeg) &&& (nI 31)) = (nI 9)
    · rw [if_pos c200] at hf
      refine z_tabIn (off := 353) (tgt := 385) d_law_32 (by rw [c200]; decide) (by rw [c200]; decide) (by rw [c200]; rfl) (by decide) ?_
      refine z_aload_n 1 d_law_385 rfl rfl ?_
      refine z_aload_n 0 d_law_386 rfl rfl ?_
      refine z_iload_n 3 d_law_387 rfl rfl ?_
      refine z_iconst (v := (1 : Int32)) d_law_388 (by decide) ?_
      refine z_iadd d_law_389 ?_
      obtain ⟨g201, hf⟩ := gd_some hf
      refine z_iald d_law_390 e14 (isA_eq g15).1 (isA_eq g15).2 (inb_vp g201) ?_
      obtain ⟨a202, e203, hf⟩ := dr_some hf
      obtain ⟨g204, hf⟩ := gd_some hf
      obtain ⟨v207, h205, ec206, hf⟩ := cl_some hf
      refine z_callVx e203 (c_X_hold ec206) d_law_391 cw_X_hold lk_Law_55 im_X_hold se_X_hold (kc_K (isK_eq g204) kc_0) ⟨by decide, by decide⟩ (Nat.le_of_ble_eq_true rfl) rfl ?_
      refine z_aload_n 2 d_law_394 rfl rfl ?_
      refine z_aload_n 0 d_law_395 rfl rfl ?_
      refine z_iload_n 3 d_law_396 rfl rfl ?_
      refine z_iconst (v := (1 : Int32)) d_law_397 (by decide) ?_
      refine z_iadd d_law_398 ?_
      obtain ⟨g209, hf⟩ := gd_some hf
      obtain ⟨g210, hf⟩ := gd_some hf
      refine z_iald d_law_399 e14 (isA_eq g209).1 (isA_eq g209).2 (inb_vp g210) ?_
      obtain ⟨a211, e212, hf⟩ := dr_some hf
      obtain ⟨g213, hf⟩ := gd_some hf
      obtain ⟨v216, h214, ec215, hf⟩ := cl_some hf
      refine z_callVx e212 (c_M_hold ec215) d_law_400 cw_M_hold lk_Law_58 im_M_hold se_M_hold (kc_K (isK_eq g213) kc_8) ⟨by decide, by decide⟩ (Nat.le_of_ble_eq_true rfl) rfl ?_
      refine z_icmp_eq (tgt := 589) d_law_403 (by decide) (fun c218 => ?_) (fun c218 => ?_)
      · rw [if_pos c218] at hf
        refine z_iinc (ls2 := [(3, vi (y3 + (nI 4))), (0, vr y0), (1, vr y1), (2, vr y2)]) 3 d_law_589 rfl rfl (by decide) rfl ?_
        refine z_goto (tgt := 18) d_law_592 (by decide) ?_
        refine z_ls [1, 2, 3, 0] rfl ?_
        exact kc ((y3 + (nI 4)), h214) (Option.some.inj hf).symm
      · rw [if_neg c218] at hf
        refine z_iconst (v := (0 : Int32)) d_law_406 (by decide) ?_
        obtain ⟨rfl, rfl⟩ := kr _ _ (Option.some.inj hf).symm
        exact z_ret d_law_407 rfl
    rw [if_neg c200] at hf
    by_cases c219 : ((hpI h a13 y3.toNatClampNeg) &&& (nI 31)) = (nI 10)
    · rw [if_pos c219] at hf
      refine z_tabIn (off := 376) (tgt := 408) d_law_32 (by rw [c219]; decide) (by rw [c219]; decide) (by rw [c219]; rfl) (by decide) ?_
      refine z_aload_n 1 d_law_408 rfl rfl ?_
      obtain ⟨a220, e221, hf⟩ := dr_some hf
      obtain ⟨g222, hf⟩ := gd_some hf
      obtain ⟨v225, h223, ec224, hf⟩ := cl_some hf
      refine z_callVx e221 (c_X_sync ec224) d_law_409 cw_X_sync lk_Law_59 im_X_sync se_X_sync (kc_K (isK_eq g222) kc_0) ⟨by decide, by decide⟩ (Nat.le_of_ble_eq_true rfl) rfl ?_
      refine z_aload_n 2 d_law_412 rfl rfl ?_
      obtain ⟨a227, e228, hf⟩ := dr_some hf
      obtain ⟨g229, hf⟩ := gd_some hf
      obtain ⟨v232, h230, ec231, hf⟩ := cl_some hf
      refine z_callVx e228 (c_M_sync ec231) d_law_413 cw_M_sync lk_Law_62 im_M_sync se_M_sync (kc_K (isK_eq g229) kc_8) ⟨by decide, by decide⟩ (Nat.le_of_ble_eq_true rfl) rfl ?_
      refine z_icmp_eq (tgt := 589) d_law_416 (by decide) (fun c234 => ?_) (fun c234 => ?_)
      · rw [if_pos c234] at hf
        refine z_iinc (ls2 := [(3, vi (y3 + (nI 4))), (0, vr y0), (1, vr y1), (2, vr y2)]) 3 d_law_589 rfl rfl (by decide) rfl ?_
        refine z_goto (tgt := 18) d_law_592 (by decide) ?_
        refine z_ls [1, 2, 3, 0] rfl ?_
        exact kc ((y3 + (nI 4)), h230) (Option.some.inj hf).symm
      · rw [if_neg c234] at hf
        refine z_iconst (v := (0 : Int32)) d_law_419 (by decide) ?_
        obtain ⟨rfl, rfl⟩ := kr _ _ (Option.some.inj hf).symm
        exact z_ret d_law_420 rfl
    rw [if_neg c219] at hf
    by_cases c235 : ((hpI h a13 y3.toNatClampNeg) &&& (nI 31)) = (nI 11)
    · rw [if_pos c235] at hf
      refine z_tabIn (off := 389) (tgt := 421) d_law_32 (by rw [c235]; decide) (by rw [c235]; decide) (by rw [c235]; rfl) (by decide) ?_
      refine z_aload_n 1 d_law_421 rfl rfl ?_
      refine z_aload_n 0 d_law_422 rfl rfl ?_
      refine z_iload_n 3 d_law_423 rfl rfl ?_
      refine z_iconst (v := (1 : Int32)) d_law_424 (by decide) ?_
      refine z_iadd d_law_425 ?_
      obtain ⟨g236, hf⟩ := gd_some hf
      refine z_iald d_law_426 e14 (isA_eq g15).1 (isA_eq g15).2 (inb_vp g236) ?_
      obtain ⟨a237, e238, hf⟩ := dr_some hf
      obtain ⟨g239, hf⟩ := gd_some hf
      obtain ⟨v242, h240, ec241, hf⟩ := cl_some hf
      refine z_callVx e238 (c_X_compact ec241) d_law_427 cw_X_compact lk_Law_63 im_X_compact se_X_compact (kc_K (isK_eq g239) kc_0) ⟨by decide, by decide⟩ (Nat.le_of_ble_eq_true rfl) rfl ?_
      refine z_aload_n 2 d_law_430 rfl rfl ?_
      refine z_aload_n 0 d_law_431 rfl rfl ?_
      refine z_iload_n 3 d_law_432 rfl rfl ?_
      refine z_iconst (v := (1 : Int32)) d_law_433 (by decide) ?_
      refine z_iadd d_law_434 ?_
      obtain ⟨g244, hf⟩ := gd_some hf
      obtain ⟨g245, hf⟩ := gd_some hf
      refine z_iald d_law_435 e14 (isA_eq g244).1 (isA_eq g244).2 (inb_vp g245) ?_
      obtain ⟨a246, e247, hf⟩ := dr_some hf
      obtain ⟨g248, hf⟩ := gd_some hf
      obtain ⟨v251, h249, ec250, hf⟩ := cl_some hf
      refine z_callVx e247 (c_M_compact ec250) d_law_436 cw_M_compact lk_Law_66 im_M_compact se_M_compact (kc_K (isK_eq g248) kc_8) ⟨by decide, by decide⟩ (Nat.le_of_ble_eq_true rfl) rfl ?_
      refine z_icmp_eq (tgt := 589) d_law_439 (by decide) (fun c253 => ?_) (fun c253 => ?_)
      · rw [if_pos c253] at hf
        refine z_iinc (ls2 := [(3, vi (y3 + (nI 4))), (0, vr y0), (1, vr y1), (2, vr y2)]) 3 d_law_589 rfl rfl (by decide) rfl ?_
        refine z_goto (tgt := 18) d_law_592 (by decide) ?_
        refine z_ls [1, 2, 3, 0] rfl ?_
        exact kc ((y3 + (nI 4)), h249) (Option.some.inj hf).symm
      · rw [if_neg c253] at hf
        refine z_iconst (v := (0 : Int32)) d_law_442 (by decide) ?_
        obtain ⟨rfl, rfl⟩ := kr _ _ (Option.some.inj hf).symm
        exact z_ret d_law_443 rfl
    rw [if_neg c235] at hf
    by_cases c254 : ((hpI h a13 y3.toNatClampNeg) &&& (nI 31)) = (nI 12)
    · rw [if_pos c254] at hf
      refine z_tabIn (off := 412) (tgt := 444) d_law_32 (by rw [c254]; decide) (by rw [c254]; decide) (by rw [c254]; rfl) (by decide) ?_
      refine z_aload_n 1 d_law_444 rfl rfl ?_
      refine z_aload_n 0 d_law_445 rfl rfl ?_
      refine z_iload_n 3 d_law_446 rfl rfl ?_
      refine z_iconst (v := (1 : Int32)) d_law_447 (by decide) ?_
      refine z_iadd d_law_448 ?_
      obtain ⟨g255, hf⟩ := gd_some hf
      refine z_iald d_law_449 e14 (isA_eq g15).1 (isA_eq g15).2 (inb_vp g255) ?_
      refine z_aload_n 0 d_law_450 rfl rfl ?_
      refine z_iload_n 3 d_law_451 rfl rfl ?_
      refine z_iconst (v := (nI 2)) d_law_452 (by decide) ?_
      refine z_iadd d_law_453 ?_
      obtain ⟨g256, hf⟩ := gd_some hf
      refine z_iald d_law_454 e14 (isA_eq g15).1 (isA_eq g15).2 (inb_vp g256) ?_
      obtain ⟨a257, e258, hf⟩ := dr_some hf
      obtain ⟨g259, hf⟩ := gd_some hf
      obtain ⟨v262, h260, ec261, hf⟩ := cl_some hf
      refine z_callVx e258 (c_X_crash ec261) d_law_455 cw_X_crash lk_Law_67 im_X_crash se_X_crash (kc_K (isK_eq g259) kc_0) ⟨by decide, by decide⟩ (Nat.le_of_ble_eq_true rfl) rfl ?_
      refine z_aload_n 2 d_law_458 rfl rfl ?_
      refine z_aload_n 0 d_law_459 rfl rfl ?_
      refine z_iload_n 3 d_law_460 rfl rfl ?_
      refine z_iconst (v := (1 : Int32)) d_law_461 (by decide) ?_
      refine z_iadd d_law_462 ?_
      obtain ⟨g264, hf⟩ := gd_some hf
      obtain ⟨g265, hf⟩ := gd_some hf
      refine z_iald d_law_463 e14 (isA_eq g264).1 (isA_eq g264).2 (inb_vp g265) ?_
      refine z_aload_n 0 d_law_464 rfl rfl ?_
      refine z_iload_n 3 d_law_465 rfl rfl ?_
      refine z_iconst (v := (nI 2)) d_law_466 (by decide) ?_
      refine z_iadd d_law_467 ?_
      obtain ⟨g266, hf⟩ := gd_some hf
      refine z_iald d_law_468 e14 (isA_eq g264).1 (isA_eq g264).2 (inb_vp g266) ?_
      obtain ⟨a267, e268, hf⟩ := dr_some hf
      obtain ⟨g269, hf⟩ := gd_some hf
      obtain ⟨v272, h270, ec271, hf⟩ := cl_some hf
      refine z_callVx e268 (c_M_crash ec271) d_law_469 cw_M_crash lk_Law_70 im_M_crash se_M_crash (kc_K (isK_eq g269) kc_8) ⟨by decide, by decide⟩ (Nat.le_of_ble_eq_true rfl) rfl ?_
      refine z_icmp_eq (tgt := 589) d_law_472 (by decide) (fun c274 => ?_) (fun c274 => ?_)
      · rw [if_pos c274] at hf
        refine z_iinc (ls2 := [(3, vi (y3 + (nI 4))), (0, vr y0), (1, vr y1), (2, vr y2)]) 3 d_law_589 rfl rfl (by decide) rfl ?_
        refine z_goto (tgt := 18) d_law_592 (by decide) ?_
        refine z_ls [1, 2, 3, 0] rfl ?_
        exact kc ((y3 + (nI 4)), h270) (Option.some.inj hf).symm
      · rw [if_neg c274] at hf
        refine z_iconst (v := (0 : Int32)) d_law_475 (by decide) ?_
        obtain ⟨rfl, rfl⟩ := kr _ _ (Option.some.inj hf).symm
        exact z_ret d_law_476 rfl
    rw [if_neg c254] at hf
    by_cases c275 : ((hpI h a13 y3.toNatClampNeg) &&& (nI 31)) = (nI 13)
    · rw [if_pos c275] at hf
      refine z_tabIn (off := 445) (tgt := 477) d_law_32 (by rw [c275]; decide) (by rw [c275]; decide) (by rw [c275]; rfl) (by decide) ?_
      refine z_aload_n 1 d_law_477 rfl rfl ?_
      refine z_aload_n 0 d_law_478 rfl rfl ?_
      refine z_iload_n 3 d_law_479 rfl rfl ?_
      refine z_iconst (v := (1 : Int32)) d_law_480 (by decide) ?_
      refine z_iadd d_law_481 ?_
      obtain ⟨g276, hf⟩ := gd_some hf
      refine z_iald d_law_482 e14 (isA_eq g15).1 (isA_eq g15).2 (inb_vp g276) ?_
      refine z_aload_n 0 d_law_483 rfl rfl ?_
      refine z_iload_n 3 d_law_484 rfl rfl ?_
      refine z_iconst (v := (nI 2)) d_law_485 (by decide) ?_
      refine z_iadd d_law_486 ?_
      obtain ⟨g277, hf⟩ := gd_some hf
      refine z_iald d_law_487 e14 (isA_eq g15).1 (isA_eq g15).2 (inb_vp g277) ?_
      obtain ⟨a278, e279, hf⟩ := dr_some hf
      obtain ⟨g280, hf⟩ := gd_some hf
      obtain ⟨v283, h281, ec282, hf⟩ := cl_some hf
      refine z_callVx e279 (c_X_chunk ec282) d_law_488 cw_X_chunk lk_Law_71 im_X_chunk se_X_chunk (kc_K (isK_eq g280) kc_0) ⟨by decide, by decide⟩ (Nat.le_of_ble_eq_true rfl) rfl ?_
      refine z_aload_n 2 d_law_491 rfl rfl ?_
      refine z_aload_n 0 d_law_492 rfl rfl ?_
      refine z_iload_n 3 d_law_493 rfl rfl ?_
      refine z_iconst (v := (1 : Int32)) d_law_494 (by decide) ?_
      refine z_iadd d_law_495 ?_
      obtain ⟨g285, hf⟩ := gd_some hf
      obtain ⟨g286, hf⟩ := gd_some hf
      refine z_iald d_law_496 e14 (isA_eq g285).1 (isA_eq g285).2 (inb_vp g286) ?_
      refine z_aload_n 0 d_law_497 rfl rfl ?_
      refine z_iload_n 3 d_law_498 rfl rfl ?_
      refine z_iconst (v := (nI 2)) d_law_499 (by decide) ?_
      refine z_iadd d_law_500 ?_
      obtain ⟨g287, hf⟩ := gd_some hf
      refine z_iald d_law_501 e14 (isA_eq g285).1 (isA_eq g285).2 (inb_vp g287) ?_
      obtain ⟨a288, e289, hf⟩ := dr_some hf
      obtain ⟨g290, hf⟩ := gd_some hf
      obtain ⟨v293, h291, ec292, hf⟩ := cl_some hf
      refine z_callVx e289 (c_M_chunk ec292) d_law_502 cw_M_chunk lk_Law_74 im_M_chunk se_M_chunk (kc_K (isK_eq g290) kc_8) ⟨by decide, by decide⟩ (Nat.le_of_ble_eq_true rfl) rfl ?_
      refine z_icmp_eq (tgt := 589) d_law_505 (by decide) (fun c295 => ?_) (fun c295 => ?_)
      · rw [if_pos c295] at hf
        refine z_iinc (ls2 := [(3, vi (y3 + (nI 4))), (0, vr y0), (1, vr y1), (2, vr y2)]) 3 d_law_589 rfl rfl (by decide) rfl ?_
        refine z_goto (tgt := 18) d_law_592 (by decide) ?_
        refine z_ls [1, 2, 3, 0] rfl ?_
        exact kc ((y3 + (nI 4)), h291) (Option.some.inj hf).symm
      · rw [if_neg c295] at hf
        refine z_iconst (v := (0 : Int32)) d_law_508 (by decide) ?_
        obtain ⟨rfl, rfl⟩ := kr _ _ (Option.some.inj hf).symm
        exact z_ret d_law_509 rfl
    rw [if_neg c275] at hf
    by_cases c296 : ((hpI h a13 y3.toNatClampNeg) &&& (nI 31)) = (nI 14)
    · rw [if_pos c296] at hf
      refine z_tabIn (off := 478) (tgt := 510) d_law_32 (by rw [c296]; decide) (by rw [c296]; decide) (by rw [c296]; rfl) (by decide) ?_
      refine z_aload_n 1 d_law_510 rfl rfl ?_
      refine z_aload_n 0 d_law_511 rfl rfl ?_
      refine z_iload_n 3 d_law_512 rfl rfl ?_
      refine z_iconst (v := (1 : Int32)) d_law_513 (by decide) ?_
      refine z_iadd d_law_514 ?_
      obtain ⟨g297, hf⟩ := gd_some hf
      refine z_iald d_law_515 e14 (isA_eq g15).1 (isA_eq g15).2 (inb_vp g297) ?_
      refine z_aload_n 0 d_law_516 rfl rfl ?_
      refine z_iload_n 3 d_law_517 rfl rfl ?_
      refine z_iconst (v := (nI 2)) d_law_518 (by decide) ?_
      refine z_iadd d_law_519 ?_
      obtain ⟨g298, hf⟩ := gd_some hf
      refine z_iald d_law_520 e14 (isA_eq g15).1 (isA_eq g15).2 (inb_vp g298) ?_
      obtain ⟨a299, e300, hf⟩ := dr_some hf
      obtain ⟨g301, hf⟩ := gd_some hf
      obtain ⟨v304, h302, ec303, hf⟩ := cl_some hf
      refine z_callVx e300 (c_X_block ec303) d_law_521 cw_X_block lk_Law_75 im_X_block se_X_block (kc_K (isK_eq g301) kc_0) ⟨by decide, by decide⟩ (Nat.le_of_ble_eq_true rfl) rfl ?_
      refine z_aload_n 2 d_law_524 rfl rfl ?_
      refine z_aload_n 0 d_law_525 rfl rfl ?_
      refine z_iload_n 3 d_law_526 rfl rfl ?_
      refine z_iconst (v := (1 : Int32)) d_law_527 (by decide) ?_
      refine z_iadd d_law_528 ?_
      obtain ⟨g306, hf⟩ := gd_some hf
      obtain ⟨g307, hf⟩ := gd_some hf
      refine z_iald d_law_529 e14 (isA_eq g306).1 (isA_eq g306).2 (inb_vp g307) ?_
      refine z_aload_n 0 d_law_530 rfl rfl ?_
      refine z_iload_n 3 d_law_531 rfl rfl ?_
      refine z_iconst (v := (nI 2)) d_law_532 (by decide) ?_
      refine z_iadd d_law_533 ?_
      obtain ⟨g308, hf⟩ := gd_some hf
      refine z_iald d_law_534 e14 (isA_eq g306).1 (isA_eq g306).2 (inb_vp g308) ?_
      obtain ⟨a309, e310, hf⟩ := dr_some hf
      obtain ⟨g311, hf⟩ := gd_some hf
      obtain ⟨v314, h312, ec313, hf⟩ := cl_some hf
      refine z_callVx e310 (c_M_block ec313) d_law_535 cw_M_block lk_Law_78 im_M_block se_M_block (kc_K (isK_eq g311) kc_8) ⟨by decide, by decide⟩ (Nat.le_of_ble_eq_true rfl) rfl ?_
      refine z_icmp_eq (tgt := 589) d_law_538 (by decide) (fun c316 => ?_) (fun c316 => ?_)
      · rw [if_pos c316] at hf
        refine z_iinc (ls2 := [(3, vi (y3 + (nI 4))), (0, vr y0), (1, vr y1), (2, vr y2)]) 3 d_law_589 rfl rfl (by decide) rfl ?_
        refine z_goto (tgt := 18) d_law_592 (by decide) ?_
        refine z_ls [1, 2, 3, 0] rfl ?_
        exact kc ((y3 + (nI 4)), h312) (Option.some.inj hf).symm
      · rw [if_neg c316] at hf
        refine z_iconst (v := (0 : Int32)) d_law_541 (by decide) ?_
        obtain ⟨rfl, rfl⟩ := kr _ _ (Option.some.inj hf).symm
        exact z_ret d_law_542 rfl
    rw [if_neg c296] at hf
    by_cases c317 : ((hpI h a13 y3.toNatClampNeg) &&& (nI 31)) = (nI 15)
    · rw [if_pos c317] at hf
      refine z_tabIn (off := 511) (tgt := 543) d_law_32 (by rw [c317]; decide) (by rw [c317]; decide) (by rw [c317]; rfl) (by decide) ?_
      refine z_aload_n 1 d_law_543 rfl rfl ?_
      refine z_aload_n 0 d_law_544 rfl rfl ?_
      refine z_iload_n 3 d_law_545 rfl rfl ?_
      refine z_iconst (v := (1 : Int32)) d_law_546 (by decide) ?_
      refine z_iadd d_law_547 ?_
      obtain ⟨g318, hf⟩ := gd_some hf
      refine z_iald d_law_548 e14 (isA_eq g15).1 (isA_eq g15).2 (inb_vp g318) ?_
      obtain ⟨a319, e320, hf⟩ := dr_some hf
      obtain ⟨g321, hf⟩ := gd_some hf
      obtain ⟨v324, h322, ec323, hf⟩ := cl_some hf
      refine z_callVx e320 (c_X_kept ec323) d_law_549 cw_X_kept lk_Law_79 im_X_kept se_X_kept (kc_K (isK_eq g321) kc_0) ⟨by decide, by decide⟩ (Nat.le_of_ble_eq_true rfl) rfl ?_
      refine z_aload_n 2 d_law_552 rfl rfl ?_
      refine z_aload_n 0 d_law_553 rfl rfl ?_
      refine z_iload_n 3 d_law_554 rfl rfl ?_
      refine z_iconst (v := (1 : Int32)) d_law_555 (by decide) ?_
      refine z_iadd d_law_556 ?_
      obtain ⟨g326, hf⟩ := gd_some hf
      obtain ⟨g327, hf⟩ := gd_some hf
      refine z_iald d_law_557 e14 (isA_eq g326).1 (isA_eq g326).2 (inb_vp g327) ?_
      obtain ⟨a328, e329, hf⟩ := dr_some hf
      obtain ⟨g330, hf⟩ := gd_some hf
      obtain ⟨v333, h331, ec332, hf⟩ := cl_some hf
      refine z_callVx e329 (c_M_kept ec332) d_law_558 cw_M_kept lk_Law_82 im_M_kept se_M_kept (kc_K (isK_eq g330) kc_8) ⟨by decide, by decide⟩ (Nat.le_of_ble_eq_true rfl) rfl ?_
      refine z_icmp_eq (tgt := 589) d_law_561 (by decide) (fun c335 => ?_) (fun c335 => ?_)
      · rw [if_pos c335] at hf
        refine z_iinc (ls2 := [(3, vi (y3 + (nI 4))), (0, vr y0), (1, vr y1), (2, vr y2)]) 3 d_law_589 rfl rfl (by decide) rfl ?_
        refine z_goto (tgt := 18) d_law_592 (by decide) ?_
        refine z_ls [1, 2, 3, 0] rfl ?_
        exact kc ((y3 + (nI 4)), h331) (Option.some.inj hf).symm
      · rw [if_neg c335] at hf
        refine z_iconst (v := (0 : Int32)) d_law_564 (by decide) ?_
        obtain ⟨rfl, rfl⟩ := kr _ _ (Option.some.inj hf).symm
        exact z_ret d_law_565 rfl
    rw [if_neg c317] at hf
    by_cases c336 : ((hpI h a13 y3.toNatClampNeg) &&& (nI 31)) = (nI 16)
    · rw [if_pos c336] at hf
      refine z_tabIn (off := 534) (tgt := 566) d_law_32 (by rw [c336]; decide) (by rw [c336]; decide) (by rw [c336]; rfl) (by decide) ?_
      refine z_aload_n 1 d_law_566 rfl rfl ?_
      refine z_aload_n 0 d_law_567 rfl rfl ?_
      refine z_iload_n 3 d_law_568 rfl rfl ?_
      refine z_iconst (v := (1 : Int32)) d_law_569 (by decide) ?_
      refine z_iadd d_law_570 ?_
      obtain ⟨g337, hf⟩ := gd_some hf
      refine z_iald d_law_571 e14 (isA_eq g15).1 (isA_eq g15).2 (inb_vp g337) ?_
      obtain ⟨a338, e339, hf⟩ := dr_some hf
      obtain ⟨g340, hf⟩ := gd_some hf
      obtain ⟨v343, h341, ec342, hf⟩ := cl_some hf
      refine z_callVx e339 (c_X_count ec342) d_law_572 cw_X_count lk_Law_83 im_X_count se_X_count (kc_K (isK_eq g340) kc_0) ⟨by decide, by decide⟩ (Nat.le_of_ble_eq_true rfl) rfl ?_
      refine z_aload_n 2 d_law_575 rfl rfl ?_
      refine z_aload_n 0 d_law_576 rfl rfl ?_
      refine z_iload_n 3 d_law_577 rfl rfl ?_
      refine z_iconst (v := (1 : Int32)) d_law_578 (by decide) ?_
      refine z_iadd d_law_579 ?_
      obtain ⟨g345, hf⟩ := gd_some hf
      obtain ⟨g346, hf⟩ := gd_some hf
      refine z_iald d_law_580 e14 (isA_eq g345).1 (isA_eq g345).2 (inb_vp g346) ?_
      obtain ⟨a347, e348, hf⟩ := dr_some hf
      obtain ⟨g349, hf⟩ := gd_some hf
      obtain ⟨v352, h350, ec351, hf⟩ := cl_some hf
      refine z_callVx e348 (c_M_count ec351) d_law_581 cw_M_count lk_Law_86 im_M_count se_M_count (kc_K (isK_eq g349) kc_8) ⟨by decide, by decide⟩ (Nat.le_of_ble_eq_true rfl) rfl ?_
      refine z_icmp_eq (tgt := 589) d_law_584 (by decide) (fun c354 => ?_) (fun c354 => ?_)
      · rw [if_pos c354] at hf
        refine z_iinc (ls2 := [(3, vi (y3 + (nI 4))), (0, vr y0), (1, vr y1), (2, vr y2)]) 3 d_law_589 rfl rfl (by decide) rfl ?_
        refine z_goto (tgt := 18) d_law_592 (by decide) ?_
        refine z_ls [1, 2, 3, 0] rfl ?_
        exact kc ((y3 + (nI 4)), h350) (Option.some.inj hf).symm
      · rw [if_neg c354] at hf
        refine z_iconst (v := (0 : Int32)) d_law_587 (by decide) ?_
        obtain ⟨rfl, rfl⟩ := kr _ _ (Option.some.inj hf).symm
        exact z_ret d_law_588 rfl
    rw [if_neg c336] at hf
    refine z_tabOut (tgt := 589) d_law_32 (ts_out 17 (by decide) (fun j hj => ?_)) (by decide) ?_
    · have hj2 : j = 0 ∨ j = 1 ∨ j = 2 ∨ j = 3 ∨ j = 4 ∨ j = 5 ∨ j = 6 ∨ j = 7 ∨ j = 8 ∨ j = 9 ∨ j = 10 ∨ j = 11 ∨ j = 12 ∨ j = 13 ∨ j = 14 ∨ j = 15 ∨ j = 16 := by omega
      rcases hj2 with e | e | e | e | e | e | e | e | e | e | e | e | e | e | e | e | e
      · subst e; exact c18
      · subst e; exact c41
      · subst e; exact c62
      · subst e; exact c83
      · subst e; exact c106
      · subst e; exact c127
      · subst e; exact c143
      · subst e; exact c162
      · subst e; exact c181
      · subst e; exact c200
      · subst e; exact c219
      · subst e; exact c235
      · subst e; exact c254
      · subst e; exact c275
      · subst e; exact c296
      · subst e; exact c317
      · subst e; exact c336
    refine z_iinc (ls2 := [(3, vi (y3 + (nI 4))), (0, vr y0), (1, vr y1), (2, vr y2)]) 3 d_law_589 rfl rfl (by decide) rfl ?_
    refine z_goto (tgt := 18) d_law_592 (by decide) ?_
    refine z_ls [1, 2, 3, 0] rfl ?_
    exact kc ((y3 + (nI 4)), h) (Option.some.inj hf).symm
set_option maxRecDepth 100000 in
set_option maxHeartbeats 4000000 in
theorem kb_law_18 {C : Ct} {mi : Nat} {y0 : Option Nat} {y1 : Option Nat} {y2 : Option Nat} {y3 : Int32} {h : Hp} {q : ((Int32 × Hp) ⊕ ((Hp) ⊕ (Int32 × Hp)))} (hf : b_law_18 (cE C, mi) y0 y1 y2 y3 h = some q) : Keep W_law h (Sum.elim (fun s : Int32 × Hp => s.2) (Sum.elim (fun x : Hp => x) (fun r : (Int32 × Hp) => r.2)) q) := by
  unfold b_law_18 at hf
  obtain ⟨a13, e14, hf⟩ := dr_some hf
  obtain ⟨g15, hf⟩ := gd_some hf
  rcases Classical.em (((Int32.ofNat (hpL h a13)) - (nI 4)) < y3) with c16 | c16
  · rw [if_pos c16] at hf
    cases (Option.some.inj hf)
    exact (Keep.refl W_law _)
  · rw [if_neg c16] at hf
    obtain ⟨g17, hf⟩ := gd_some hf
    by_cases c18 : ((hpI h a13 y3.toNatClampNeg) &&& (nI 31)) = (0 : Int32)
    · rw [if_pos c18] at hf
      obtain ⟨g19, hf⟩ := gd_some hf
      obtain ⟨g20, hf⟩ := gd_some hf
      obtain ⟨g21, hf⟩ := gd_some hf
      obtain ⟨a22, e23, hf⟩ := dr_some hf
      obtain ⟨g24, hf⟩ := gd_some hf
      obtain ⟨v27, h25, ec26, hf⟩ := cl_some hf
      have K28 := (Keep.refl W_law _).trans ((fr_X_put (C := C) (mi := mi) ec26).mono (by decide) (by decide))
      obtain ⟨g29, hf⟩ := gd_some hf
      obtain ⟨g30, hf⟩ := gd_some hf
      obtain ⟨g31, hf⟩ := gd_some hf
      obtain ⟨g32, hf⟩ := gd_some hf
      obtain ⟨a33, e34, hf⟩ := dr_some hf
      obtain ⟨g35, hf⟩ := gd_some hf
      obtain ⟨v38, h36, ec37, hf⟩ := cl_some hf
      have K39 := K28.trans ((fr_M_put (C := C) (mi := mi) ec37).mono (by decide) (by decide))
      rcases Classical.em (v27 = v38) with c40 | c40
      · rw [if_pos c40] at hf
        cases (Option.some.inj hf)
        exact K39
      · rw [if_neg c40] at hf
        cases (Option.some.inj hf)
        exact K39
    rw [if_neg c18] at hf
    by_cases c41 : ((hpI h a13 y3.toNatClampNeg) &&& (nI 31)) = (1 : Int32)
    · rw [if_pos c41] at hf
      obtain ⟨g42, hf⟩ := gd_some hf
      obtain ⟨g43, hf⟩ := gd_some hf
      obtain ⟨a44, e45, hf⟩ := dr_some hf
      obtain ⟨g46, hf⟩ := gd_some hf
      obtain ⟨v49, h47, ec48, hf⟩ := cl_some hf
      have K50 := (Keep.refl W_law _).trans ((fr_X_remove (C := C) (mi := mi) ec48).mono (by decide) (by decide))
      obtain ⟨g51, hf⟩ := gd_some hf
      obtain ⟨g52, hf⟩ := gd_some hf
      obtain ⟨g53, hf⟩ := gd_some hf
      obtain ⟨a54, e55, hf⟩ := dr_some hf
      obtain ⟨g56, hf⟩ := gd_some hf
      obtain ⟨v59, h57, ec58, hf⟩ := cl_some hf
      have K60 := K50.trans ((fr_M_remove (C := C) (mi := mi) ec58).mono (by decide) (by decide))
      rcases Classical.em (v49 = v59) with c61 | c61
      · rw [if_pos c61] at hf
        cases (Option.some.inj hf)
        exact K60
      · rw [if_neg c61] at hf
        cases (Option.some.inj hf)
        exact K60
    rw [if_neg c41] at hf
    by_cases c62 : ((hpI h a13 y3.toNatClampNeg) &&& (nI 31)) = (nI 2)
    · rw [if_pos c62] at hf
      obtain ⟨g63, hf⟩ := gd_some hf
      obtain ⟨g64, hf⟩ := gd_some hf
      obtain ⟨a65, e66, hf⟩ := dr_some hf
      obtain ⟨g67, hf⟩ := gd_some hf
      obtain ⟨v70, h68, ec69, hf⟩ := cl_some hf
      have K71 := (Keep.refl W_law _).trans ((fr_X_get (C := C) (mi := mi) ec69).mono (by decide) (by decide))
      obtain ⟨g72, hf⟩ := gd_some hf
      obtain ⟨g73, hf⟩ := gd_some hf
      obtain ⟨g74, hf⟩ := gd_some hf
      obtain ⟨a75, e76, hf⟩ := dr_some hf
      obtain ⟨g77, hf⟩ := gd_some hf
      obtain ⟨v80, h78, ec79, hf⟩ := cl_some hf
      have K81 := K71.trans ((fr_M_get (C := C) (mi := mi) ec79).mono (by decide) (by decide))
      rcases Classical.em ((lg_cmp v70 v80) = 0) with c82 | c82
      · rw [if_pos c82] at hf
        cases (Option.some.inj hf)
        exact K81
      · rw [if_neg c82] at hf
        cases (Option.some.inj hf)
        exact K81
    rw [if_neg c62] at hf
    by_cases c83 : ((hpI h a13 y3.toNatClampNeg) &&& (nI 31)) = (nI 3)
    · rw [if_pos c83] at hf
      obtain ⟨g84, hf⟩ := gd_some hf
      obtain ⟨g85, hf⟩ := gd_some hf
      obtain ⟨g86, hf⟩ := gd_some hf
      obtain ⟨a87, e88, hf⟩ := dr_some hf
      obtain ⟨g89, hf⟩ := gd_some hf
      obtain ⟨v92, h90, ec91, hf⟩ := cl_some hf
      have K93 := (Keep.refl W_law _).trans ((fr_X_at (C := C) (mi := mi) ec91).mono (by decide) (by decide))
      obtain ⟨g94, hf⟩ := gd_some hf
      obtain ⟨g95, hf⟩ := gd_some hf
      obtain ⟨g96, hf⟩ := gd_some hf
      obtain ⟨g97, hf⟩ := gd_some hf
      obtain ⟨a98, e99, hf⟩ := dr_some hf
      obtain ⟨g100, hf⟩ := gd_some hf
      obtain ⟨v103, h101, ec102, hf⟩ := cl_some hf
      have K104 := K93.trans ((fr_M_at (C := C) (mi := mi) ec102).mono (by decide) (by decide))
      rcases Classical.em ((lg_cmp v92 v103) = 0) with c105 | c105
      · rw [if_pos c105] at hf
        cases (Option.some.inj hf)
        exact K104
      · rw [if_neg c105] at hf
        cases (Option.some.inj hf)
        exact K104
    rw [if_neg c83] at hf
    by_cases c106 : ((hpI h a13 y3.toNatClampNeg) &&& (nI 31)) = (nI 4)
    · rw [if_pos c106] at hf
      obtain ⟨g107, hf⟩ := gd_some hf
      obtain ⟨g108, hf⟩ := gd_some hf
      obtain ⟨a109, e110, hf⟩ := dr_some hf
      obtain ⟨g111, hf⟩ := gd_some hf
      obtain ⟨v114, h112, ec113, hf⟩ := cl_some hf
      have K115 := (Keep.refl W_law _).trans ((fr_X_next (C := C) (mi := mi) ec113).mono (by decide) (by decide))
      obtain ⟨g116, hf⟩ := gd_some hf
      obtain ⟨g117, hf⟩ := gd_some hf
      obtain ⟨g118, hf⟩ := gd_some hf
      obtain ⟨a119, e120, hf⟩ := dr_some hf
      obtain ⟨g121, hf⟩ := gd_some hf
      obtain ⟨v124, h122, ec123, hf⟩ := cl_some hf
      have K125 := K115.trans ((fr_M_next (C := C) (mi := mi) ec123).mono (by decide) (by decide))
      rcases Classical.em (v114 = v124) with c126 | c126
      · rw [if_pos c126] at hf
        cases (Option.some.inj hf)
        exact K125
      · rw [if_neg c126] at hf
        cases (Option.some.inj hf)
        exact K125
    rw [if_neg c106] at hf
    by_cases c127 : ((hpI h a13 y3.toNatClampNeg) &&& (nI 31)) = (nI 5)
    · rw [if_pos c127] at hf
      obtain ⟨a128, e129, hf⟩ := dr_some hf
      obtain ⟨g130, hf⟩ := gd_some hf
      obtain ⟨v133, h131, ec132, hf⟩ := cl_some hf
      have K134 := (Keep.refl W_law _).trans ((fr_X_commit (C := C) (mi := mi) ec132).mono (by decide) (by decide))
      obtain ⟨a135, e136, hf⟩ := dr_some hf
      obtain ⟨g137, hf⟩ := gd_some hf
      obtain ⟨v140, h138, ec139, hf⟩ := cl_some hf
      have K141 := K134.trans ((fr_M_commit (C := C) (mi := mi) ec139).mono (by decide) (by decide))
      rcases Classical.em (v133 = v140) with c142 | c142
      · rw [if_pos c142] at hf
        cases (Option.some.inj hf)
        exact K141
      · rw [if_neg c142] at hf
        cases (Option.some.inj hf)
        exact K141
    rw [if_neg c127] at hf
    by_cases c143 : ((hpI h a13 y3.toNatClampNeg) &&& (nI 31)) = (nI 6)
    · rw [if_pos c143] at hf
      obtain ⟨g144, hf⟩ := gd_some hf
      obtain ⟨a145, e146, hf⟩ := dr_some hf
      obtain ⟨g147, hf⟩ := gd_some hf
      obtain ⟨v150, h148, ec149, hf⟩ := cl_some hf
      have K151 := (Keep.refl W_law _).trans ((fr_X_rollback (C := C) (mi := mi) ec149).mono (by decide) (by decide))
      obtain ⟨g152, hf⟩ := gd_some hf
      obtain ⟨g153, hf⟩ := gd_some hf
      obtain ⟨a154, e155, hf⟩ := dr_some hf
      obtain ⟨g156, hf⟩ := gd_some hf
      obtain ⟨v159, h157, ec158, hf⟩ := cl_some hf
      have K160 := K151.trans ((fr_M_rollback (C := C) (mi := mi) ec158).mono (by decide) (by decide))
      rcases Classical.em (v150 = v159) with c161 | c161
      · rw [if_pos c161] at hf
        cases (Option.some.inj hf)
        exact K160
      · rw [if_neg c161] at hf
        cases (Option.some.inj hf)
        exact K160
    rw [if_neg c143] at hf
    by_cases c162 : ((hpI h a13 y3.toNatClampNeg) &&& (nI 31)) = (nI 7)
    · rw [if_pos c162] at hf
      obtain ⟨g163, hf⟩ := gd_some hf
      obtain ⟨a164, e165, hf⟩ := dr_some hf
      obtain ⟨g166, hf⟩ := gd_some hf
      obtain ⟨v169, h167, ec168, hf⟩ := cl_some hf
      have K170 := (Keep.refl W_law _).trans ((fr_X_pin (C := C) (mi := mi) ec168).mono (by decide) (by decide))
      obtain ⟨g171, hf⟩ := gd_some hf
      obtain ⟨g172, hf⟩ := gd_some hf
      obtain ⟨a173, e174, hf⟩ := dr_some hf
      obtain ⟨g175, hf⟩ := gd_some hf
      obtain ⟨v178, h176, ec177, hf⟩ := cl_some hf
      have K179 := K170.trans ((fr_M_pin (C := C) (mi := mi) ec177).mono (by decide) (by decide))
      rcases Classical.em (v169 = v178) with c180 | c180
      · rw [if_pos c180] at hf
        cases (Option.some.inj hf)
        exact K179
      · rw [if_neg c180] at hf
        cases (Option.some.inj hf)
        exact K179
    rw [if_neg c162] at hf
    by_cases c181 : ((hpI h a13 y3.toNatClampNeg) &&& (nI 31)) = (nI 8)
    · rw [if_pos c181] at hf
      obtain ⟨g182, hf⟩ := gd_some hf
      obtain ⟨a183, e184, hf⟩ := dr_some hf
      obtain ⟨g185, hf⟩ := gd_some hf
      obtain ⟨v188, h186, ec187, hf⟩ := cl_some hf
      have K189 := (Keep.refl W_law _).trans ((fr_X_unpin (C := C) (mi := mi) ec187).mono (by decide) (by decide))
      obtain ⟨g190, hf⟩ := gd_some hf
      obtain ⟨g191, hf⟩ := gd_some hf
      obtain ⟨a192, e193, hf⟩ := dr_some hf
      obtain ⟨g194, hf⟩ := gd_some hf
      obtain ⟨v197, h195, ec196, hf⟩ := cl_some hf
      have K198 := K189.trans ((fr_M_unpin (C := C) (mi := mi) ec196).mono (by decide) (by decide))
      rcases Classical.em (v188 = v197) with c199 | c199
      · rw [if_pos c199] at hf
        cases (Option.some.inj hf)
        exact K198
      · rw [if_neg c199] at hf
        cases (Option.some.inj hf)
        exact K198
    rw [if_neg c181] at hf
    by_cases c200 : ((hpI h a13 y3.toNatClampNeg) &&& (nI 31)) = (nI 9)
    · rw [if_pos c200] at hf
      obtain ⟨g201, hf⟩ := gd_some hf
      obtain ⟨a202, e203, hf⟩ := dr_some hf
      obtain ⟨g204, hf⟩ := gd_some hf
      obtain ⟨v207, h205, ec206, hf⟩ := cl_some hf
      have K208 := (Keep.refl W_law _).trans ((fr_X_hold (C := C) (mi := mi) ec206).mono (by decide) (by decide))
      obtain ⟨g209, hf⟩ := gd_some hf
      obtain ⟨g210, hf⟩ := gd_some hf
      obtain ⟨a211, e212, hf⟩ := dr_some hf
      obtain ⟨g213, hf⟩ := gd_some hf
      obtain ⟨v216, h214, ec215, hf⟩ := cl_some hf
      have K217 := K208.trans ((fr_M_hold (C := C) (mi := mi) ec215).mono (by decide) (by decide))
      rcases Classical.em (v207 = v216) with c218 | c218
      · rw [if_pos c218] at hf
        cases (Option.some.inj hf)
        exact K217
      · rw [if_neg c218] at hf
        cases (Option.some.inj hf)
        exact K217
    rw [if_neg c200] at hf
    by_cases c219 : ((hpI h a13 y3.toNatClampNeg) &&& (nI 31)) = (nI 10)
    · rw [if_pos c219] at hf
      obtain ⟨a220, e221, hf⟩ := dr_some hf
      obtain ⟨g222, hf⟩ := gd_some hf
      obtain ⟨v225, h223, ec224, hf⟩ := cl_some hf
      have K226 := (Keep.refl W_law _).trans ((fr_X_sync (C := C) (mi := mi) ec224).mono (by decide) (by decide))
      obtain ⟨a227, e228, hf⟩ := dr_some hf
      obtain ⟨g229, hf⟩ := gd_some hf
      obtain ⟨v232, h230, ec231, hf⟩ := cl_some hf
      have K233 := K226.trans ((fr_M_sync (C := C) (mi := mi) ec231).mono (by decide) (by decide))
      rcases Classical.em (v225 = v232) with c234 | c234
      · rw [if_pos c234] at hf
        cases (Option.some.inj hf)
        exact K233
      · rw [if_neg c234] at hf
        cases (Option.some.inj hf)
        exact K233
    rw [if_neg c219] at hf
    by_cases c235 : ((hpI h a13 y3.toNatClampNeg) &&& (nI 31)) = (nI 11)
    · rw [if_pos c235] at hf
      obtain ⟨g236, hf⟩ := gd_some hf
      obtain ⟨a237, e238, hf⟩ := dr_some hf
      obtain ⟨g239, hf⟩ := gd_some hf
      obtain ⟨v242, h240, ec241, hf⟩ := cl_some hf
      have K243 := (Keep.refl W_law _).trans ((fr_X_compact (C := C) (mi := mi) ec241).mono (by decide) (by decide))
      obtain ⟨g244, hf⟩ := gd_some hf
      obtain ⟨g245, hf⟩ := gd_some hf
      obtain ⟨a246, e247, hf⟩ := dr_some hf
      obtain ⟨g248, hf⟩ := gd_some hf
      obtain ⟨v251, h249, ec250, hf⟩ := cl_some hf
      have K252 := K243.trans ((fr_M_compact (C := C) (mi := mi) ec250).mono (by decide) (by decide))
      rcases Classical.em (v242 = v251) with c253 | c253
      · rw [if_pos c253] at hf
        cases (Option.some.inj hf)
        exact K252
      · rw [if_neg c253] at hf
        cases (Option.some.inj hf)
        exact K252
    rw [if_neg c235] at hf
    by_cases c254 : ((hpI h a13 y3.toNatClampNeg) &&& (nI 31)) = (nI 12)
    · rw [if_pos c254] at hf
      obtain ⟨g255, hf⟩ := gd_some hf
      obtain ⟨g256, hf⟩ := gd_some hf
      obtain ⟨a257, e258, hf⟩ := dr_some hf
      obtain ⟨g259, hf⟩ := gd_some hf
      obtain ⟨v262, h260, ec261, hf⟩ := cl_some hf
      have K263 := (Keep.refl W_law _).trans ((fr_X_crash (C := C) (mi := mi) ec261).mono (by decide) (by decide))
      obtain ⟨g264, hf⟩ := gd_some hf
      obtain ⟨g265, hf⟩ := gd_some hf
      obtain ⟨g266, hf⟩ := gd_some hf
      obtain ⟨a267, e268, hf⟩ := dr_some hf
      obtain ⟨g269, hf⟩ := gd_some hf
      obtain ⟨v272, h270, ec271, hf⟩ := cl_some hf
      have K273 := K263.trans ((fr_M_crash (C := C) (mi := mi) ec271).mono (by decide) (by decide))
      rcases Classical.em (v262 = v272) with c274 | c274
      · rw [if_pos c274] at hf
        cases (Option.some.inj hf)
        exact K273
      · rw [if_neg c274] at hf
        cases (Option.some.inj hf)
        exact K273
    rw [if_neg c254] at hf
    by_cases c275 : ((hpI h a13 y3.toNatClampNeg) &&& (nI 31)) = (nI 13)
    · rw [if_pos c275] at hf
      obtain ⟨g276, hf⟩ := gd_some hf
      obtain ⟨g277, hf⟩ := gd_some hf
      obtain ⟨a278, e279, hf⟩ := dr_some hf
      obtain ⟨g280, hf⟩ := gd_some hf
      obtain ⟨v283, h281, ec282, hf⟩ := cl_some hf
      have K284 := (Keep.refl W_law _).trans ((fr_X_chunk (C := C) (mi := mi) ec282).mono (by decide) (by decide))
      obtain ⟨g285, hf⟩ := gd_some hf
      obtain ⟨g286, hf⟩ := gd_some hf
      obtain ⟨g287, hf⟩ := gd_some hf
      obtain ⟨a288, e289, hf⟩ := dr_some hf
      obtain ⟨g290, hf⟩ := gd_some hf
      obtain ⟨v293, h291, ec292, hf⟩ := cl_some hf
      have K294 := K284.trans ((fr_M_chunk (C := C) (mi := mi) ec292).mono (by decide) (by decide))
      rcases Classical.em (v283 = v293) with c295 | c295
      · rw [if_pos c295] at hf
        cases (Option.some.inj hf)
        exact K294
      · rw [if_neg c295] at hf
        cases (Option.some.inj hf)
        exact K294
    rw [if_neg c275] at hf
    by_cases c296 : ((hpI h a13 y3.toNatClampNeg) &&& (nI 31)) = (nI 14)
    · rw [if_pos c296] at hf
      obtain ⟨g297, hf⟩ := gd_some hf
      obtain ⟨g298, hf⟩ := gd_some hf
      obtain ⟨a299, e300, hf⟩ := dr_some hf
      obtain ⟨g301, hf⟩ := gd_some hf
      obtain ⟨v304, h302, ec303, hf⟩ := cl_some hf
      have K305 := (Keep.refl W_law _).trans ((fr_X_block (C := C) (mi := mi) ec303).mono (by decide) (by decide))
      obtain ⟨g306, hf⟩ := gd_some hf
      obtain ⟨g307, hf⟩ := gd_some hf
      obtain ⟨g308, hf⟩ := gd_some hf
      obtain ⟨a309, e310, hf⟩ := dr_some hf
      obtain ⟨g311, hf⟩ := gd_some hf
      obtain ⟨v314, h312, ec313, hf⟩ := cl_some hf
      have K315 := K305.trans ((fr_M_block (C := C) (mi := mi) ec313).mono (by decide) (by decide))
      rcases Classical.em (v304 = v314) with c316 | c316
      · rw [if_pos c316] at hf
        cases (Option.some.inj hf)
        exact K315
      · rw [if_neg c316] at hf
        cases (Option.some.inj hf)
        exact K315
    rw [if_neg c296] at hf
    by_cases c317 : ((hpI h a13 y3.toNatClampNeg) &&& (nI 31)) = (nI 15)
    · rw [if_pos c317] at hf
      obtain ⟨g318, hf⟩ := gd_some hf
      obtain ⟨a319, e320, hf⟩ := dr_some hf
      obtain ⟨g321, hf⟩ := gd_some hf
      obtain ⟨v324, h322, ec323, hf⟩ := cl_some hf
      have K325 := (Keep.refl W_law _).trans ((fr_X_kept (C := C) (mi := mi) ec323).mono (by decide) (by decide))
      obtain ⟨g326, hf⟩ := gd_some hf
      obtain ⟨g327, hf⟩ := gd_some hf
      obtain ⟨a328, e329, hf⟩ := dr_some hf
      obtain ⟨g330, hf⟩ := gd_some hf
      obtain ⟨v333, h331, ec332, hf⟩ := cl_some hf
      have K334 := K325.trans ((fr_M_kept (C := C) (mi := mi) ec332).mono (by decide) (by decide))
      rcases Classical.em (v324 = v333) with c335 | c335
      · rw [if_pos c335] at hf
        cases (Option.some.inj hf)
        exact K334
      · rw [if_neg c335] at hf
        cases (Option.some.inj hf)
        exact K334
    rw [if_neg c317] at hf
    by_cases c336 : ((hpI h a13 y3.toNatClampNeg) &&& (nI 31)) = (nI 16)
    · rw [if_pos c336] at hf
      obtain ⟨g337, hf⟩ := gd_some hf
      obtain ⟨a338, e339, hf⟩ := dr_some hf
      obtain ⟨g340, hf⟩ := gd_some hf
      obtain ⟨v343, h341, ec342, hf⟩ := cl_some hf
      have K344 := (Keep.refl W_law _).trans ((fr_X_count (C := C) (mi := mi) ec342).mono (by decide) (by decide))
      obtain ⟨g345, hf⟩ := gd_some hf
      obtain ⟨g346, hf⟩ := gd_some hf
      obtain ⟨a347, e348, hf⟩ := dr_some hf
      obtain ⟨g349, hf⟩ := gd_some hf
      obtain ⟨v352, h350, ec351, hf⟩ := cl_some hf
      have K353 := K344.trans ((fr_M_count (C := C) (mi := mi) ec351).mono (by decide) (by decide))
      rcases Classical.em (v343 = v352) with c354 | c354
      · rw [if_pos c354] at hf
        cases (Option.some.inj hf)
        exact K353
      · rw [if_neg c354] at hf
        cases (Option.some.inj hf)
        exact K353
    rw [if_neg c336] at hf
    cases (Option.some.inj hf)
    exact (Keep.refl W_law _)
def l_law_18 (E : Nat × Nat) (y0 : Option Nat) (y1 : Option Nat) (y2 : Option Nat) (s : Int32 × Hp) : Option ((Hp) ⊕ (Int32 × Hp)) := lp (fun s => b_law_18 E y0 y1 y2 s.1 s.2) FU s
theorem zzl_law_18 {l : Launch} {C : Ct} {mi : Nat} {y0 : Option Nat} {y1 : Option Nat} {y2 : Option Nat} {h' : Hp} {v : Int32} : ∀ (n : Nat) (s : Int32 × Hp) (q : ((Hp) ⊕ (Int32 × Hp))), lp (fun s : Int32 × Hp => b_law_18 (cE C, mi) y0 y1 y2 s.1 s.2) n s = some q → (∀ x, q = .inl x → Z l C mi m_law 9 595 [] [] x (some (vi v)) h') → (∀ rv rh, q = .inr (rv, rh) → v = rv ∧ h' = rh) → Z l C mi m_law 9 18 [(0, vr y0), (1, vr y1), (2, vr y2), (3, vi s.1)] [] s.2 (some (vi v)) h' := by
  intro n
  induction n with
  | zero => intro s q hl; cases hl
  | succ n ih =>
    intro s q hl ke kr
    rcases lp_some hl with ⟨s2, hb, hl2⟩ | hb
    · exact zb_law_18 hb (fun s3 e3 => by cases e3; refine z_ls [0, 1, 2, 3] rfl ?_; exact ih s2 q hl2 ke kr) (fun x e3 => by cases e3) (fun rv rh e3 => by cases e3)
    · exact zb_law_18 hb (fun s3 e3 => by cases e3) (fun x e3 => ke x (Sum.inr.inj e3)) (fun rv rh e3 => kr rv rh (Sum.inr.inj e3))
theorem zl_law_18 {l : Launch} {C : Ct} {mi : Nat} {y0 : Option Nat} {y1 : Option Nat} {y2 : Option Nat} {h' : Hp} {v : Int32} {s : Int32 × Hp} {q : ((Hp) ⊕ (Int32 × Hp))} (hl : l_law_18 (cE C, mi) y0 y1 y2 s = some q) (ke : ∀ x, q = .inl x → Z l C mi m_law 9 595 [] [] x (some (vi v)) h') (kr : ∀ rv rh, q = .inr (rv, rh) → v = rv ∧ h' = rh) : Z l C mi m_law 9 18 [(0, vr y0), (1, vr y1), (2, vr y2), (3, vi s.1)] [] s.2 (some (vi v)) h' := zzl_law_18 FU s q hl ke kr
theorem kl_law_18 {C : Ct} {mi : Nat} {y0 : Option Nat} {y1 : Option Nat} {y2 : Option Nat} {s : Int32 × Hp} {q : ((Hp) ⊕ (Int32 × Hp))} (hl : l_law_18 (cE C, mi) y0 y1 y2 s = some q) : Keep W_law s.2 ((Sum.elim (fun x : Hp => x) (fun r : (Int32 × Hp) => r.2)) q) := lpk (sh := (fun s : Int32 × Hp => s.2)) (rh := (Sum.elim (fun x : Hp => x) (fun r : (Int32 × Hp) => r.2))) (fun s q hb => kb_law_18 (C := C) (mi := mi) hb) FU s q hl
def f_law (E : Nat × Nat) (a0 : Nat) (h : Hp) : Option (Int32 × Hp) :=
  nm (nw h 0 0 8) fun h1 => cv (f_X_init E (hpN h) h1) fun h4 => nm (nw h4 8 0 34) fun h7 => cv (f_M_init (hpN h4) h7) fun h10 => lk (l_law_18 E (some a0) (some (hpN h)) (some (hpN h4)) ((0 : Int32), h10)) (fun x355 => some ((1 : Int32), x355)) some
set_option maxRecDepth 100000 in
set_option maxHeartbeats 4000000 in
theorem zf_law {l : Launch} {C : Ct} {mi : Nat} {a0 : Nat} {h h' : Hp} {v : Int32} (hf : f_law (cE C, mi) a0 h = some (v, h')) : Z l C mi m_law 9 0 [(0, vr (some a0))] [] h (some (vi v)) h' := by
  unfold f_law at hf
  obtain ⟨h1, eh2, hf⟩ := nm_some hf
  refine z_new (κ := 0) d_law_0 rfl (by decide +kernel) ?_
  refine z_hp eh2 ?_
  refine z_dup d_law_3 rfl ?_
  obtain ⟨h4, ec5, hf⟩ := cv_some hf
  refine z_callI (c_X_init ec5) d_law_4 rfl cw_X_init lk_Law_9 im_X_init rfl ⟨by decide, by decide⟩ (Nat.le_of_ble_eq_true rfl) rfl ?_
  refine z_astore_n (ls2 := [(1, vr (some (hpN h))), (0, vr (some a0))]) d_law_7 rfl (by decide) rfl ?_
  obtain ⟨h7, eh8, hf⟩ := nm_some hf
  refine z_new (κ := 8) d_law_8 rfl (by decide +kernel) ?_
  refine z_hp eh8 ?_
  refine z_dup d_law_11 rfl ?_
  obtain ⟨h10, ec11, hf⟩ := cv_some hf
  refine z_callI (c_M_init ec11) d_law_12 rfl cw_M_init lk_Law_12 im_M_init rfl ⟨by decide, by decide⟩ (Nat.le_of_ble_eq_true rfl) rfl ?_
  refine z_astore_n (ls2 := [(2, vr (some (hpN h4))), (1, vr (some (hpN h))), (0, vr (some a0))]) d_law_15 rfl (by decide) rfl ?_
  refine z_iconst (v := (0 : Int32)) d_law_16 (by decide) ?_
  refine z_istore_n (ls2 := [(3, vi (0 : Int32)), (2, vr (some (hpN h4))), (1, vr (some (hpN h))), (0, vr (some a0))]) d_law_17 rfl (by decide) rfl ?_
  rcases lk_some hf with ⟨x355, el356, hf⟩ | ⟨x355r, el356, hf⟩
  · skip
    refine z_ls [3, 2, 1, 0] rfl ?_
    refine zl_law_18 el356 (fun x2 e2 => ?_) (fun rv rh e2 => by cases e2)
    cases e2
    refine z_iconst (v := (1 : Int32)) d_law_595 (by decide) ?_
    obtain ⟨rfl, rfl⟩ := Prod.mk.inj (Option.some.inj hf)
    exact z_ret d_law_596 rfl
  · skip
    refine z_ls [3, 2, 1, 0] rfl ?_
    refine zl_law_18 el356 (fun x2 e2 => by cases e2) (fun rv rh e2 => ?_)
    cases e2
    have e4 := Prod.mk.inj (Option.some.inj hf)
    exact ⟨e4.1.symm, e4.2.symm⟩
set_option maxRecDepth 100000 in
set_option maxHeartbeats 4000000 in
theorem fr_law {C : Ct} {mi : Nat} {a0 : Nat} {h h' : Hp} {v : Int32} (hf : f_law (cE C, mi) a0 h = some (v, h')) : Keep W_law h h' := by
  unfold f_law at hf
  obtain ⟨h1, eh2, hf⟩ := nm_some hf
  have K3 := (Keep.refl W_law _).trans (kw_N eh2)
  obtain ⟨h4, ec5, hf⟩ := cv_some hf
  have K6 := K3.trans ((fr_X_init (C := C) (mi := mi) ec5).mono (by decide) (by decide))
  obtain ⟨h7, eh8, hf⟩ := nm_some hf
  have K9 := K6.trans (kw_N eh8)
  obtain ⟨h10, ec11, hf⟩ := cv_some hf
  have K12 := K9.trans ((fr_M_init (C := C) (mi := mi) ec11).mono (by decide) (by decide))
  rcases lk_some hf with ⟨x355, el356, hf⟩ | ⟨x355r, el356, hf⟩
  · skip
    have K357 := K12.trans (kl_law_18 (C := C) (mi := mi) el356)
    obtain ⟨rfl, rfl⟩ := Prod.mk.inj (Option.some.inj hf)
    exact K357
  · skip
    have K358 := K12.trans (kl_law_18 (C := C) (mi := mi) el356)
    cases (Option.some.inj hf)
    exact K358
