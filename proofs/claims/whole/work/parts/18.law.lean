-- VersionMapsLaw.law([I)Z
def m_law : Mi := (⟨"VersionMapsLaw", "law", "([I)Z"⟩, code, 4, (some .boolean), .ireturn)
theorem d_law_0 : decode code 0 = .ok (.new 7, 3) := by decide +kernel
theorem d_law_3 : decode code 3 = .ok (.dup, 1) := by decide +kernel
theorem d_law_4 : decode code 4 = .ok (.invokespecial 9, 3) := by decide +kernel
theorem d_law_7 : decode code 7 = .ok (.astore_n 1, 1) := by decide +kernel
theorem d_law_8 : decode code 8 = .ok (.new 10, 3) := by decide +kernel
theorem d_law_11 : decode code 11 = .ok (.dup, 1) := by decide +kernel
theorem d_law_12 : decode code 12 = .ok (.invokespecial 12, 3) := by decide +kernel
theorem d_law_15 : decode code 15 = .ok (.astore_n 2, 1) := by decide +kernel
theorem d_law_16 : decode code 16 = .ok (.iconst 0, 1) := by decide +kernel
theorem d_law_17 : decode code 17 = .ok (.istore_n 3, 1) := by decide +kernel
theorem d_law_18 : decode code 18 = .ok (.iload_n 3, 1) := by decide +kernel
theorem d_law_19 : decode code 19 = .ok (.aload_n 0, 1) := by decide +kernel
theorem d_law_20 : decode code 20 = .ok (.arraylength, 1) := by decide +kernel
theorem d_law_21 : decode code 21 = .ok (.iconst 4, 1) := by decide +kernel
theorem d_law_22 : decode code 22 = .ok (.isub, 1) := by decide +kernel
theorem d_law_23 : decode code 23 = .ok (.if_icmp .gt 572, 3) := by decide +kernel
theorem d_law_26 : decode code 26 = .ok (.aload_n 0, 1) := by decide +kernel
theorem d_law_27 : decode code 27 = .ok (.iload_n 3, 1) := by decide +kernel
theorem d_law_28 : decode code 28 = .ok (.iaload, 1) := by decide +kernel
theorem d_law_29 : decode code 29 = .ok (.bipush 31, 2) := by decide +kernel
theorem d_law_31 : decode code 31 = .ok (.iand, 1) := by decide +kernel
theorem d_law_32 : decode code 32 = .ok (.tableswitch 557 0 16 #[84, 127, 160, 194, 238, 271, 284, 307, 330, 353, 376, 389, 412, 445, 478, 511, 534], 84) := by decide +kernel
theorem d_law_116 : decode code 116 = .ok (.aload_n 1, 1) := by decide +kernel
theorem d_law_117 : decode code 117 = .ok (.aload_n 0, 1) := by decide +kernel
theorem d_law_118 : decode code 118 = .ok (.iload_n 3, 1) := by decide +kernel
theorem d_law_119 : decode code 119 = .ok (.iconst 1, 1) := by decide +kernel
theorem d_law_120 : decode code 120 = .ok (.iadd, 1) := by decide +kernel
theorem d_law_121 : decode code 121 = .ok (.iaload, 1) := by decide +kernel
theorem d_law_122 : decode code 122 = .ok (.aload_n 0, 1) := by decide +kernel
theorem d_law_123 : decode code 123 = .ok (.iload_n 3, 1) := by decide +kernel
theorem d_law_124 : decode code 124 = .ok (.iconst 2, 1) := by decide +kernel
theorem d_law_125 : decode code 125 = .ok (.iadd, 1) := by decide +kernel
theorem d_law_126 : decode code 126 = .ok (.iaload, 1) := by decide +kernel
theorem d_law_127 : decode code 127 = .ok (.aload_n 0, 1) := by decide +kernel
theorem d_law_128 : decode code 128 = .ok (.iload_n 3, 1) := by decide +kernel
theorem d_law_129 : decode code 129 = .ok (.iconst 3, 1) := by decide +kernel
theorem d_law_130 : decode code 130 = .ok (.iadd, 1) := by decide +kernel
theorem d_law_131 : decode code 131 = .ok (.iaload, 1) := by decide +kernel
theorem d_law_132 : decode code 132 = .ok (.invokevirtual 13, 3) := by decide +kernel
theorem d_law_135 : decode code 135 = .ok (.aload_n 2, 1) := by decide +kernel
theorem d_law_136 : decode code 136 = .ok (.aload_n 0, 1) := by decide +kernel
theorem d_law_137 : decode code 137 = .ok (.iload_n 3, 1) := by decide +kernel
theorem d_law_138 : decode code 138 = .ok (.iconst 1, 1) := by decide +kernel
theorem d_law_139 : decode code 139 = .ok (.iadd, 1) := by decide +kernel
theorem d_law_140 : decode code 140 = .ok (.iaload, 1) := by decide +kernel
theorem d_law_141 : decode code 141 = .ok (.aload_n 0, 1) := by decide +kernel
theorem d_law_142 : decode code 142 = .ok (.iload_n 3, 1) := by decide +kernel
theorem d_law_143 : decode code 143 = .ok (.iconst 2, 1) := by decide +kernel
theorem d_law_144 : decode code 144 = .ok (.iadd, 1) := by decide +kernel
theorem d_law_145 : decode code 145 = .ok (.iaload, 1) := by decide +kernel
theorem d_law_146 : decode code 146 = .ok (.aload_n 0, 1) := by decide +kernel
theorem d_law_147 : decode code 147 = .ok (.iload_n 3, 1) := by decide +kernel
theorem d_law_148 : decode code 148 = .ok (.iconst 3, 1) := by decide +kernel
theorem d_law_149 : decode code 149 = .ok (.iadd, 1) := by decide +kernel
theorem d_law_150 : decode code 150 = .ok (.iaload, 1) := by decide +kernel
theorem d_law_151 : decode code 151 = .ok (.invokevirtual 17, 3) := by decide +kernel
theorem d_law_154 : decode code 154 = .ok (.if_icmp .eq 435, 3) := by decide +kernel
theorem d_law_157 : decode code 157 = .ok (.iconst 0, 1) := by decide +kernel
theorem d_law_158 : decode code 158 = .ok (.ireturn, 1) := by decide +kernel
theorem d_law_159 : decode code 159 = .ok (.aload_n 1, 1) := by decide +kernel
theorem d_law_160 : decode code 160 = .ok (.aload_n 0, 1) := by decide +kernel
theorem d_law_161 : decode code 161 = .ok (.iload_n 3, 1) := by decide +kernel
theorem d_law_162 : decode code 162 = .ok (.iconst 1, 1) := by decide +kernel
theorem d_law_163 : decode code 163 = .ok (.iadd, 1) := by decide +kernel
theorem d_law_164 : decode code 164 = .ok (.iaload, 1) := by decide +kernel
theorem d_law_165 : decode code 165 = .ok (.aload_n 0, 1) := by decide +kernel
theorem d_law_166 : decode code 166 = .ok (.iload_n 3, 1) := by decide +kernel
theorem d_law_167 : decode code 167 = .ok (.iconst 2, 1) := by decide +kernel
theorem d_law_168 : decode code 168 = .ok (.iadd, 1) := by decide +kernel
theorem d_law_169 : decode code 169 = .ok (.iaload, 1) := by decide +kernel
theorem d_law_170 : decode code 170 = .ok (.invokevirtual 18, 3) := by decide +kernel
theorem d_law_173 : decode code 173 = .ok (.aload_n 2, 1) := by decide +kernel
theorem d_law_174 : decode code 174 = .ok (.aload_n 0, 1) := by decide +kernel
theorem d_law_175 : decode code 175 = .ok (.iload_n 3, 1) := by decide +kernel
theorem d_law_176 : decode code 176 = .ok (.iconst 1, 1) := by decide +kernel
theorem d_law_177 : decode code 177 = .ok (.iadd, 1) := by decide +kernel
theorem d_law_178 : decode code 178 = .ok (.iaload, 1) := by decide +kernel
theorem d_law_179 : decode code 179 = .ok (.aload_n 0, 1) := by decide +kernel
theorem d_law_180 : decode code 180 = .ok (.iload_n 3, 1) := by decide +kernel
theorem d_law_181 : decode code 181 = .ok (.iconst 2, 1) := by decide +kernel
theorem d_law_182 : decode code 182 = .ok (.iadd, 1) := by decide +kernel
theorem d_law_183 : decode code 183 = .ok (.iaload, 1) := by decide +kernel
theorem d_law_184 : decode code 184 = .ok (.invokevirtual 22, 3) := by decide +kernel
theorem d_law_187 : decode code 187 = .ok (.if_icmp .eq 402, 3) := by decide +kernel
theorem d_law_190 : decode code 190 = .ok (.iconst 0, 1) := by decide +kernel
theorem d_law_191 : decode code 191 = .ok (.ireturn, 1) := by decide +kernel
theorem d_law_192 : decode code 192 = .ok (.aload_n 1, 1) := by decide +kernel
theorem d_law_193 : decode code 193 = .ok (.aload_n 0, 1) := by decide +kernel
theorem d_law_194 : decode code 194 = .ok (.iload_n 3, 1) := by decide +kernel
theorem d_law_195 : decode code 195 = .ok (.iconst 1, 1) := by decide +kernel
theorem d_law_196 : decode code 196 = .ok (.iadd, 1) := by decide +kernel
theorem d_law_197 : decode code 197 = .ok (.iaload, 1) := by decide +kernel
theorem d_law_198 : decode code 198 = .ok (.aload_n 0, 1) := by decide +kernel
theorem d_law_199 : decode code 199 = .ok (.iload_n 3, 1) := by decide +kernel
theorem d_law_200 : decode code 200 = .ok (.iconst 2, 1) := by decide +kernel
theorem d_law_201 : decode code 201 = .ok (.iadd, 1) := by decide +kernel
theorem d_law_202 : decode code 202 = .ok (.iaload, 1) := by decide +kernel
theorem d_law_203 : decode code 203 = .ok (.invokevirtual 23, 3) := by decide +kernel
theorem d_law_206 : decode code 206 = .ok (.aload_n 2, 1) := by decide +kernel
theorem d_law_207 : decode code 207 = .ok (.aload_n 0, 1) := by decide +kernel
theorem d_law_208 : decode code 208 = .ok (.iload_n 3, 1) := by decide +kernel
theorem d_law_209 : decode code 209 = .ok (.iconst 1, 1) := by decide +kernel
theorem d_law_210 : decode code 210 = .ok (.iadd, 1) := by decide +kernel
theorem d_law_211 : decode code 211 = .ok (.iaload, 1) := by decide +kernel
theorem d_law_212 : decode code 212 = .ok (.aload_n 0, 1) := by decide +kernel
theorem d_law_213 : decode code 213 = .ok (.iload_n 3, 1) := by decide +kernel
theorem d_law_214 : decode code 214 = .ok (.iconst 2, 1) := by decide +kernel
theorem d_law_215 : decode code 215 = .ok (.iadd, 1) := by decide +kernel
theorem d_law_216 : decode code 216 = .ok (.iaload, 1) := by decide +kernel
theorem d_law_217 : decode code 217 = .ok (.invokevirtual 27, 3) := by decide +kernel
theorem d_law_220 : decode code 220 = .ok (.lcmp, 1) := by decide +kernel
theorem d_law_221 : decode code 221 = .ok (.ifCond .eq 368, 3) := by decide +kernel
theorem d_law_224 : decode code 224 = .ok (.iconst 0, 1) := by decide +kernel
theorem d_law_225 : decode code 225 = .ok (.ireturn, 1) := by decide +kernel
theorem d_law_226 : decode code 226 = .ok (.aload_n 1, 1) := by decide +kernel
theorem d_law_227 : decode code 227 = .ok (.aload_n 0, 1) := by decide +kernel
theorem d_law_228 : decode code 228 = .ok (.iload_n 3, 1) := by decide +kernel
theorem d_law_229 : decode code 229 = .ok (.iconst 1, 1) := by decide +kernel
theorem d_law_230 : decode code 230 = .ok (.iadd, 1) := by decide +kernel
theorem d_law_231 : decode code 231 = .ok (.iaload, 1) := by decide +kernel
theorem d_law_232 : decode code 232 = .ok (.aload_n 0, 1) := by decide +kernel
theorem d_law_233 : decode code 233 = .ok (.iload_n 3, 1) := by decide +kernel
theorem d_law_234 : decode code 234 = .ok (.iconst 2, 1) := by decide +kernel
theorem d_law_235 : decode code 235 = .ok (.iadd, 1) := by decide +kernel
theorem d_law_236 : decode code 236 = .ok (.iaload, 1) := by decide +kernel
theorem d_law_237 : decode code 237 = .ok (.aload_n 0, 1) := by decide +kernel
theorem d_law_238 : decode code 238 = .ok (.iload_n 3, 1) := by decide +kernel
theorem d_law_239 : decode code 239 = .ok (.iconst 3, 1) := by decide +kernel
theorem d_law_240 : decode code 240 = .ok (.iadd, 1) := by decide +kernel
theorem d_law_241 : decode code 241 = .ok (.iaload, 1) := by decide +kernel
theorem d_law_242 : decode code 242 = .ok (.invokevirtual 28, 3) := by decide +kernel
theorem d_law_245 : decode code 245 = .ok (.aload_n 2, 1) := by decide +kernel
theorem d_law_246 : decode code 246 = .ok (.aload_n 0, 1) := by decide +kernel
theorem d_law_247 : decode code 247 = .ok (.iload_n 3, 1) := by decide +kernel
theorem d_law_248 : decode code 248 = .ok (.iconst 1, 1) := by decide +kernel
theorem d_law_249 : decode code 249 = .ok (.iadd, 1) := by decide +kernel
theorem d_law_250 : decode code 250 = .ok (.iaload, 1) := by decide +kernel
theorem d_law_251 : decode code 251 = .ok (.aload_n 0, 1) := by decide +kernel
theorem d_law_252 : decode code 252 = .ok (.iload_n 3, 1) := by decide +kernel
theorem d_law_253 : decode code 253 = .ok (.iconst 2, 1) := by decide +kernel
theorem d_law_254 : decode code 254 = .ok (.iadd, 1) := by decide +kernel
theorem d_law_255 : decode code 255 = .ok (.iaload, 1) := by decide +kernel
theorem d_law_256 : decode code 256 = .ok (.aload_n 0, 1) := by decide +kernel
theorem d_law_257 : decode code 257 = .ok (.iload_n 3, 1) := by decide +kernel
theorem d_law_258 : decode code 258 = .ok (.iconst 3, 1) := by decide +kernel
theorem d_law_259 : decode code 259 = .ok (.iadd, 1) := by decide +kernel
theorem d_law_260 : decode code 260 = .ok (.iaload, 1) := by decide +kernel
theorem d_law_261 : decode code 261 = .ok (.invokevirtual 32, 3) := by decide +kernel
theorem d_law_264 : decode code 264 = .ok (.lcmp, 1) := by decide +kernel
theorem d_law_265 : decode code 265 = .ok (.ifCond .eq 324, 3) := by decide +kernel
theorem d_law_268 : decode code 268 = .ok (.iconst 0, 1) := by decide +kernel
theorem d_law_269 : decode code 269 = .ok (.ireturn, 1) := by decide +kernel
theorem d_law_270 : decode code 270 = .ok (.aload_n 1, 1) := by decide +kernel
theorem d_law_271 : decode code 271 = .ok (.aload_n 0, 1) := by decide +kernel
theorem d_law_272 : decode code 272 = .ok (.iload_n 3, 1) := by decide +kernel
theorem d_law_273 : decode code 273 = .ok (.iconst 1, 1) := by decide +kernel
theorem d_law_274 : decode code 274 = .ok (.iadd, 1) := by decide +kernel
theorem d_law_275 : decode code 275 = .ok (.iaload, 1) := by decide +kernel
theorem d_law_276 : decode code 276 = .ok (.aload_n 0, 1) := by decide +kernel
theorem d_law_277 : decode code 277 = .ok (.iload_n 3, 1) := by decide +kernel
theorem d_law_278 : decode code 278 = .ok (.iconst 2, 1) := by decide +kernel
theorem d_law_279 : decode code 279 = .ok (.iadd, 1) := by decide +kernel
theorem d_law_280 : decode code 280 = .ok (.iaload, 1) := by decide +kernel
theorem d_law_281 : decode code 281 = .ok (.invokevirtual 33, 3) := by decide +kernel
theorem d_law_284 : decode code 284 = .ok (.aload_n 2, 1) := by decide +kernel
theorem d_law_285 : decode code 285 = .ok (.aload_n 0, 1) := by decide +kernel
theorem d_law_286 : decode code 286 = .ok (.iload_n 3, 1) := by decide +kernel
theorem d_law_287 : decode code 287 = .ok (.iconst 1, 1) := by decide +kernel
theorem d_law_288 : decode code 288 = .ok (.iadd, 1) := by decide +kernel
theorem d_law_289 : decode code 289 = .ok (.iaload, 1) := by decide +kernel
theorem d_law_290 : decode code 290 = .ok (.aload_n 0, 1) := by decide +kernel
theorem d_law_291 : decode code 291 = .ok (.iload_n 3, 1) := by decide +kernel
theorem d_law_292 : decode code 292 = .ok (.iconst 2, 1) := by decide +kernel
theorem d_law_293 : decode code 293 = .ok (.iadd, 1) := by decide +kernel
theorem d_law_294 : decode code 294 = .ok (.iaload, 1) := by decide +kernel
theorem d_law_295 : decode code 295 = .ok (.invokevirtual 36, 3) := by decide +kernel
theorem d_law_298 : decode code 298 = .ok (.if_icmp .eq 291, 3) := by decide +kernel
theorem d_law_301 : decode code 301 = .ok (.iconst 0, 1) := by decide +kernel
theorem d_law_302 : decode code 302 = .ok (.ireturn, 1) := by decide +kernel
theorem d_law_303 : decode code 303 = .ok (.aload_n 1, 1) := by decide +kernel
theorem d_law_304 : decode code 304 = .ok (.invokevirtual 37, 3) := by decide +kernel
theorem d_law_307 : decode code 307 = .ok (.aload_n 2, 1) := by decide +kernel
theorem d_law_308 : decode code 308 = .ok (.invokevirtual 41, 3) := by decide +kernel
theorem d_law_311 : decode code 311 = .ok (.if_icmp .eq 278, 3) := by decide +kernel
theorem d_law_314 : decode code 314 = .ok (.iconst 0, 1) := by decide +kernel
theorem d_law_315 : decode code 315 = .ok (.ireturn, 1) := by decide +kernel
theorem d_law_316 : decode code 316 = .ok (.aload_n 1, 1) := by decide +kernel
theorem d_law_317 : decode code 317 = .ok (.aload_n 0, 1) := by decide +kernel
theorem d_law_318 : decode code 318 = .ok (.iload_n 3, 1) := by decide +kernel
theorem d_law_319 : decode code 319 = .ok (.iconst 1, 1) := by decide +kernel
theorem d_law_320 : decode code 320 = .ok (.iadd, 1) := by decide +kernel
theorem d_law_321 : decode code 321 = .ok (.iaload, 1) := by decide +kernel
theorem d_law_322 : decode code 322 = .ok (.invokevirtual 42, 3) := by decide +kernel
theorem d_law_325 : decode code 325 = .ok (.aload_n 2, 1) := by decide +kernel
theorem d_law_326 : decode code 326 = .ok (.aload_n 0, 1) := by decide +kernel
theorem d_law_327 : decode code 327 = .ok (.iload_n 3, 1) := by decide +kernel
theorem d_law_328 : decode code 328 = .ok (.iconst 1, 1) := by decide +kernel
theorem d_law_329 : decode code 329 = .ok (.iadd, 1) := by decide +kernel
theorem d_law_330 : decode code 330 = .ok (.iaload, 1) := by decide +kernel
theorem d_law_331 : decode code 331 = .ok (.invokevirtual 46, 3) := by decide +kernel
theorem d_law_334 : decode code 334 = .ok (.if_icmp .eq 255, 3) := by decide +kernel
theorem d_law_337 : decode code 337 = .ok (.iconst 0, 1) := by decide +kernel
theorem d_law_338 : decode code 338 = .ok (.ireturn, 1) := by decide +kernel
theorem d_law_339 : decode code 339 = .ok (.aload_n 1, 1) := by decide +kernel
theorem d_law_340 : decode code 340 = .ok (.aload_n 0, 1) := by decide +kernel
theorem d_law_341 : decode code 341 = .ok (.iload_n 3, 1) := by decide +kernel
theorem d_law_342 : decode code 342 = .ok (.iconst 1, 1) := by decide +kernel
theorem d_law_343 : decode code 343 = .ok (.iadd, 1) := by decide +kernel
theorem d_law_344 : decode code 344 = .ok (.iaload, 1) := by decide +kernel
theorem d_law_345 : decode code 345 = .ok (.invokevirtual 47, 3) := by decide +kernel
theorem d_law_348 : decode code 348 = .ok (.aload_n 2, 1) := by decide +kernel
theorem d_law_349 : decode code 349 = .ok (.aload_n 0, 1) := by decide +kernel
theorem d_law_350 : decode code 350 = .ok (.iload_n 3, 1) := by decide +kernel
theorem d_law_351 : decode code 351 = .ok (.iconst 1, 1) := by decide +kernel
theorem d_law_352 : decode code 352 = .ok (.iadd, 1) := by decide +kernel
theorem d_law_353 : decode code 353 = .ok (.iaload, 1) := by decide +kernel
theorem d_law_354 : decode code 354 = .ok (.invokevirtual 50, 3) := by decide +kernel
theorem d_law_357 : decode code 357 = .ok (.if_icmp .eq 232, 3) := by decide +kernel
theorem d_law_360 : decode code 360 = .ok (.iconst 0, 1) := by decide +kernel
theorem d_law_361 : decode code 361 = .ok (.ireturn, 1) := by decide +kernel
theorem d_law_362 : decode code 362 = .ok (.aload_n 1, 1) := by decide +kernel
theorem d_law_363 : decode code 363 = .ok (.aload_n 0, 1) := by decide +kernel
theorem d_law_364 : decode code 364 = .ok (.iload_n 3, 1) := by decide +kernel
theorem d_law_365 : decode code 365 = .ok (.iconst 1, 1) := by decide +kernel
theorem d_law_366 : decode code 366 = .ok (.iadd, 1) := by decide +kernel
theorem d_law_367 : decode code 367 = .ok (.iaload, 1) := by decide +kernel
theorem d_law_368 : decode code 368 = .ok (.invokevirtual 51, 3) := by decide +kernel
theorem d_law_371 : decode code 371 = .ok (.aload_n 2, 1) := by decide +kernel
theorem d_law_372 : decode code 372 = .ok (.aload_n 0, 1) := by decide +kernel
theorem d_law_373 : decode code 373 = .ok (.iload_n 3, 1) := by decide +kernel
theorem d_law_374 : decode code 374 = .ok (.iconst 1, 1) := by decide +kernel
theorem d_law_375 : decode code 375 = .ok (.iadd, 1) := by decide +kernel
theorem d_law_376 : decode code 376 = .ok (.iaload, 1) := by decide +kernel
theorem d_law_377 : decode code 377 = .ok (.invokevirtual 54, 3) := by decide +kernel
theorem d_law_380 : decode code 380 = .ok (.if_icmp .eq 209, 3) := by decide +kernel
theorem d_law_383 : decode code 383 = .ok (.iconst 0, 1) := by decide +kernel
theorem d_law_384 : decode code 384 = .ok (.ireturn, 1) := by decide +kernel
theorem d_law_385 : decode code 385 = .ok (.aload_n 1, 1) := by decide +kernel
theorem d_law_386 : decode code 386 = .ok (.aload_n 0, 1) := by decide +kernel
theorem d_law_387 : decode code 387 = .ok (.iload_n 3, 1) := by decide +kernel
theorem d_law_388 : decode code 388 = .ok (.iconst 1, 1) := by decide +kernel
theorem d_law_389 : decode code 389 = .ok (.iadd, 1) := by decide +kernel
theorem d_law_390 : decode code 390 = .ok (.iaload, 1) := by decide +kernel
theorem d_law_391 : decode code 391 = .ok (.invokevirtual 55, 3) := by decide +kernel
theorem d_law_394 : decode code 394 = .ok (.aload_n 2, 1) := by decide +kernel
theorem d_law_395 : decode code 395 = .ok (.aload_n 0, 1) := by decide +kernel
theorem d_law_396 : decode code 396 = .ok (.iload_n 3, 1) := by decide +kernel
theorem d_law_397 : decode code 397 = .ok (.iconst 1, 1) := by decide +kernel
theorem d_law_398 : decode code 398 = .ok (.iadd, 1) := by decide +kernel
theorem d_law_399 : decode code 399 = .ok (.iaload, 1) := by decide +kernel
theorem d_law_400 : decode code 400 = .ok (.invokevirtual 58, 3) := by decide +kernel
theorem d_law_403 : decode code 403 = .ok (.if_icmp .eq 186, 3) := by decide +kernel
theorem d_law_406 : decode code 406 = .ok (.iconst 0, 1) := by decide +kernel
theorem d_law_407 : decode code 407 = .ok (.ireturn, 1) := by decide +kernel
theorem d_law_408 : decode code 408 = .ok (.aload_n 1, 1) := by decide +kernel
theorem d_law_409 : decode code 409 = .ok (.invokevirtual 59, 3) := by decide +kernel
theorem d_law_412 : decode code 412 = .ok (.aload_n 2, 1) := by decide +kernel
theorem d_law_413 : decode code 413 = .ok (.invokevirtual 62, 3) := by decide +kernel
theorem d_law_416 : decode code 416 = .ok (.if_icmp .eq 173, 3) := by decide +kernel
theorem d_law_419 : decode code 419 = .ok (.iconst 0, 1) := by decide +kernel
theorem d_law_420 : decode code 420 = .ok (.ireturn, 1) := by decide +kernel
theorem d_law_421 : decode code 421 = .ok (.aload_n 1, 1) := by decide +kernel
theorem d_law_422 : decode code 422 = .ok (.aload_n 0, 1) := by decide +kernel
theorem d_law_423 : decode code 423 = .ok (.iload_n 3, 1) := by decide +kernel
theorem d_law_424 : decode code 424 = .ok (.iconst 1, 1) := by decide +kernel
theorem d_law_425 : decode code 425 = .ok (.iadd, 1) := by decide +kernel
theorem d_law_426 : decode code 426 = .ok (.iaload, 1) := by decide +kernel
theorem d_law_427 : decode code 427 = .ok (.invokevirtual 63, 3) := by decide +kernel
theorem d_law_430 : decode code 430 = .ok (.aload_n 2, 1) := by decide +kernel
theorem d_law_431 : decode code 431 = .ok (.aload_n 0, 1) := by decide +kernel
theorem d_law_432 : decode code 432 = .ok (.iload_n 3, 1) := by decide +kernel
theorem d_law_433 : decode code 433 = .ok (.iconst 1, 1) := by decide +kernel
theorem d_law_434 : decode code 434 = .ok (.iadd, 1) := by decide +kernel
theorem d_law_435 : decode code 435 = .ok (.iaload, 1) := by decide +kernel
theorem d_law_436 : decode code 436 = .ok (.invokevirtual 66, 3) := by decide +kernel
theorem d_law_439 : decode code 439 = .ok (.if_icmp .eq 150, 3) := by decide +kernel
theorem d_law_442 : decode code 442 = .ok (.iconst 0, 1) := by decide +kernel
theorem d_law_443 : decode code 443 = .ok (.ireturn, 1) := by decide +kernel
theorem d_law_444 : decode code 444 = .ok (.aload_n 1, 1) := by decide +kernel
theorem d_law_445 : decode code 445 = .ok (.aload_n 0, 1) := by decide +kernel
theorem d_law_446 : decode code 446 = .ok (.iload_n 3, 1) := by decide +kernel
theorem d_law_447 : decode code 447 = .ok (.iconst 1, 1) := by decide +kernel
theorem d_law_448 : decode code 448 = .ok (.iadd, 1) := by decide +kernel
theorem d_law_449 : decode code 449 = .ok (.iaload, 1) := by decide +kernel
theorem d_law_450 : decode code 450 = .ok (.aload_n 0, 1) := by decide +kernel
theorem d_law_451 : decode code 451 = .ok (.iload_n 3, 1) := by decide +kernel
theorem d_law_452 : decode code 452 = .ok (.iconst 2, 1) := by decide +kernel
theorem d_law_453 : decode code 453 = .ok (.iadd, 1) := by decide +kernel
theorem d_law_454 : decode code 454 = .ok (.iaload, 1) := by decide +kernel
theorem d_law_455 : decode code 455 = .ok (.invokevirtual 67, 3) := by decide +kernel
theorem d_law_458 : decode code 458 = .ok (.aload_n 2, 1) := by decide +kernel
theorem d_law_459 : decode code 459 = .ok (.aload_n 0, 1) := by decide +kernel
theorem d_law_460 : decode code 460 = .ok (.iload_n 3, 1) := by decide +kernel
theorem d_law_461 : decode code 461 = .ok (.iconst 1, 1) := by decide +kernel
theorem d_law_462 : decode code 462 = .ok (.iadd, 1) := by decide +kernel
theorem d_law_463 : decode code 463 = .ok (.iaload, 1) := by decide +kernel
theorem d_law_464 : decode code 464 = .ok (.aload_n 0, 1) := by decide +kernel
theorem d_law_465 : decode code 465 = .ok (.iload_n 3, 1) := by decide +kernel
theorem d_law_466 : decode code 466 = .ok (.iconst 2, 1) := by decide +kernel
theorem d_law_467 : decode code 467 = .ok (.iadd, 1) := by decide +kernel
theorem d_law_468 : decode code 468 = .ok (.iaload, 1) := by decide +kernel
theorem d_law_469 : decode code 469 = .ok (.invokevirtual 70, 3) := by decide +kernel
theorem d_law_472 : decode code 472 = .ok (.if_icmp .eq 117, 3) := by decide +kernel
theorem d_law_475 : decode code 475 = .ok (.iconst 0, 1) := by decide +kernel
theorem d_law_476 : decode code 476 = .ok (.ireturn, 1) := by decide +kernel
theorem d_law_477 : decode code 477 = .ok (.aload_n 1, 1) := by decide +kernel
theorem d_law_478 : decode code 478 = .ok (.aload_n 0, 1) := by decide +kernel
theorem d_law_479 : decode code 479 = .ok (.iload_n 3, 1) := by decide +kernel
theorem d_law_480 : decode code 480 = .ok (.iconst 1, 1) := by decide +kernel
theorem d_law_481 : decode code 481 = .ok (.iadd, 1) := by decide +kernel
theorem d_law_482 : decode code 482 = .ok (.iaload, 1) := by decide +kernel
theorem d_law_483 : decode code 483 = .ok (.aload_n 0, 1) := by decide +kernel
theorem d_law_484 : decode code 484 = .ok (.iload_n 3, 1) := by decide +kernel
theorem d_law_485 : decode code 485 = .ok (.iconst 2, 1) := by decide +kernel
theorem d_law_486 : decode code 486 = .ok (.iadd, 1) := by decide +kernel
theorem d_law_487 : decode code 487 = .ok (.iaload, 1) := by decide +kernel
theorem d_law_488 : decode code 488 = .ok (.invokevirtual 71, 3) := by decide +kernel
theorem d_law_491 : decode code 491 = .ok (.aload_n 2, 1) := by decide +kernel
theorem d_law_492 : decode code 492 = .ok (.aload_n 0, 1) := by decide +kernel
theorem d_law_493 : decode code 493 = .ok (.iload_n 3, 1) := by decide +kernel
theorem d_law_494 : decode code 494 = .ok (.iconst 1, 1) := by decide +kernel
theorem d_law_495 : decode code 495 = .ok (.iadd, 1) := by decide +kernel
theorem d_law_496 : decode code 496 = .ok (.iaload, 1) := by decide +kernel
theorem d_law_497 : decode code 497 = .ok (.aload_n 0, 1) := by decide +kernel
theorem d_law_498 : decode code 498 = .ok (.iload_n 3, 1) := by decide +kernel
theorem d_law_499 : decode code 499 = .ok (.iconst 2, 1) := by decide +kernel
theorem d_law_500 : decode code 500 = .ok (.iadd, 1) := by decide +kernel
theorem d_law_501 : decode code 501 = .ok (.iaload, 1) := by decide +kernel
theorem d_law_502 : decode code 502 = .ok (.invokevirtual 74, 3) := by decide +kernel
theorem d_law_505 : decode code 505 = .ok (.if_icmp .eq 84, 3) := by decide +kernel
theorem d_law_508 : decode code 508 = .ok (.iconst 0, 1) := by decide +kernel
theorem d_law_509 : decode code 509 = .ok (.ireturn, 1) := by decide +kernel
theorem d_law_510 : decode code 510 = .ok (.aload_n 1, 1) := by decide +kernel
theorem d_law_511 : decode code 511 = .ok (.aload_n 0, 1) := by decide +kernel
theorem d_law_512 : decode code 512 = .ok (.iload_n 3, 1) := by decide +kernel
theorem d_law_513 : decode code 513 = .ok (.iconst 1, 1) := by decide +kernel
theorem d_law_514 : decode code 514 = .ok (.iadd, 1) := by decide +kernel
theorem d_law_515 : decode code 515 = .ok (.iaload, 1) := by decide +kernel
theorem d_law_516 : decode code 516 = .ok (.aload_n 0, 1) := by decide +kernel
theorem d_law_517 : decode code 517 = .ok (.iload_n 3, 1) := by decide +kernel
theorem d_law_518 : decode code 518 = .ok (.iconst 2, 1) := by decide +kernel
theorem d_law_519 : decode code 519 = .ok (.iadd, 1) := by decide +kernel
theorem d_law_520 : decode code 520 = .ok (.iaload, 1) := by decide +kernel
theorem d_law_521 : decode code 521 = .ok (.invokevirtual 75, 3) := by decide +kernel
theorem d_law_524 : decode code 524 = .ok (.aload_n 2, 1) := by decide +kernel
theorem d_law_525 : decode code 525 = .ok (.aload_n 0, 1) := by decide +kernel
theorem d_law_526 : decode code 526 = .ok (.iload_n 3, 1) := by decide +kernel
theorem d_law_527 : decode code 527 = .ok (.iconst 1, 1) := by decide +kernel
theorem d_law_528 : decode code 528 = .ok (.iadd, 1) := by decide +kernel
theorem d_law_529 : decode code 529 = .ok (.iaload, 1) := by decide +kernel
theorem d_law_530 : decode code 530 = .ok (.aload_n 0, 1) := by decide +kernel
theorem d_law_531 : decode code 531 = .ok (.iload_n 3, 1) := by decide +kernel
theorem d_law_532 : decode code 532 = .ok (.iconst 2, 1) := by decide +kernel
theorem d_law_533 : decode code 533 = .ok (.iadd, 1) := by decide +kernel
theorem d_law_534 : decode code 534 = .ok (.iaload, 1) := by decide +kernel
theorem d_law_535 : decode code 535 = .ok (.invokevirtual 78, 3) := by decide +kernel
theorem d_law_538 : decode code 538 = .ok (.if_icmp .eq 51, 3) := by decide +kernel
theorem d_law_541 : decode code 541 = .ok (.iconst 0, 1) := by decide +kernel
theorem d_law_542 : decode code 542 = .ok (.ireturn, 1) := by decide +kernel
theorem d_law_543 : decode code 543 = .ok (.aload_n 1, 1) := by decide +kernel
theorem d_law_544 : decode code 544 = .ok (.aload_n 0, 1) := by decide +kernel
theorem d_law_545 : decode code 545 = .ok (.iload_n 3, 1) := by decide +kernel
theorem d_law_546 : decode code 546 = .ok (.iconst 1, 1) := by decide +kernel
theorem d_law_547 : decode code 547 = .ok (.iadd, 1) := by decide +kernel
theorem d_law_548 : decode code 548 = .ok (.iaload, 1) := by decide +kernel
theorem d_law_549 : decode code 549 = .ok (.invokevirtual 79, 3) := by decide +kernel
theorem d_law_552 : decode code 552 = .ok (.aload_n 2, 1) := by decide +kernel
theorem d_law_553 : decode code 553 = .ok (.aload_n 0, 1) := by decide +kernel
theorem d_law_554 : decode code 554 = .ok (.iload_n 3, 1) := by decide +kernel
theorem d_law_555 : decode code 555 = .ok (.iconst 1, 1) := by decide +kernel
theorem d_law_556 : decode code 556 = .ok (.iadd, 1) := by decide +kernel
theorem d_law_557 : decode code 557 = .ok (.iaload, 1) := by decide +kernel
theorem d_law_558 : decode code 558 = .ok (.invokevirtual 82, 3) := by decide +kernel
theorem d_law_561 : decode code 561 = .ok (.if_icmp .eq 28, 3) := by decide +kernel
theorem d_law_564 : decode code 564 = .ok (.iconst 0, 1) := by decide +kernel
theorem d_law_565 : decode code 565 = .ok (.ireturn, 1) := by decide +kernel
theorem d_law_566 : decode code 566 = .ok (.aload_n 1, 1) := by decide +kernel
theorem d_law_567 : decode code 567 = .ok (.aload_n 0, 1) := by decide +kernel
theorem d_law_568 : decode code 568 = .ok (.iload_n 3, 1) := by decide +kernel
theorem d_law_569 : decode code 569 = .ok (.iconst 1, 1) := by decide +kernel
theorem d_law_570 : decode code 570 = .ok (.iadd, 1) := by decide +kernel
theorem d_law_571 : decode code 571 = .ok (.iaload, 1) := by decide +kernel
theorem d_law_572 : decode code 572 = .ok (.invokevirtual 83, 3) := by decide +kernel
theorem d_law_575 : decode code 575 = .ok (.aload_n 2, 1) := by decide +kernel
theorem d_law_576 : decode code 576 = .ok (.aload_n 0, 1) := by decide +kernel
theorem d_law_577 : decode code 577 = .ok (.iload_n 3, 1) := by decide +kernel
theorem d_law_578 : decode code 578 = .ok (.iconst 1, 1) := by decide +kernel
theorem d_law_579 : decode code 579 = .ok (.iadd, 1) := by decide +kernel
theorem d_law_580 : decode code 580 = .ok (.iaload, 1) := by decide +kernel
theorem d_law_581 : decode code 581 = .ok (.invokevirtual 86, 3) := by decide +kernel
theorem d_law_584 : decode code 584 = .ok (.if_icmp .eq 5, 3) := by decide +kernel
theorem d_law_587 : decode code 587 = .ok (.iconst 0, 1) := by decide +kernel
theorem d_law_588 : decode code 588 = .ok (.ireturn, 1) := by decide +kernel
theorem d_law_589 : decode code 589 = .ok (.iinc 3 4, 3) := by decide +kernel
theorem d_law_592 : decode code 592 = .ok (.goto (-574), 3) := by decide +kernel
theorem d_law_595 : decode code 595 = .ok (.iconst 1, 1) := by decide +kernel
theorem d_law_596 : decode code 596 = .ok (.ireturn, 1) := by decide +kernel
def b_law_18 (E : Nat × Nat) (y0 : Option Nat) (y1 : Option Nat) (y2 : Option Nat) (y3 : Int32) (h : Hp) : Option ((Int32 × Hp) ⊕ ((Hp) ⊕ (Int32 × Hp))) :=
  dr y0 fun a9 => gd (isA h a9 0) (if ((Int32.ofNat (hpL h a9)) - (4 : Int32)) < y3 then (some (.inr (.inl h))) else (gd (inb y3 (hpL h a9)) (if ((hpI h a9 y3.toNatClampNeg) &&& (31 : Int32)) = (0 : Int32) then (gd (inb (y3 + (1 : Int32)) (hpL h a9)) (gd (inb (y3 + (2 : Int32)) (hpL h a9)) (gd (inb (y3 + (3 : Int32)) (hpL h a9)) (dr y1 fun a18 => gd (isK h a18 0) (cl (f_X_put a18 (hpI h a9 (y3 + (1 : Int32)).toNatClampNeg) (hpI h a9 (y3 + (2 : Int32)).toNatClampNeg) (hpI h a9 (y3 + (3 : Int32)).toNatClampNeg) h) fun v23 h21 => gd (isA h21 a9 0) (gd (inb (y3 + (1 : Int32)) (hpL h21 a9)) (gd (inb (y3 + (2 : Int32)) (hpL h21 a9)) (gd (inb (y3 + (3 : Int32)) (hpL h21 a9)) (dr y2 fun a28 => gd (isK h21 a28 8) (cl (f_M_put a28 (hpI h21 a9 (y3 + (1 : Int32)).toNatClampNeg) (hpI h21 a9 (y3 + (2 : Int32)).toNatClampNeg) (hpI h21 a9 (y3 + (3 : Int32)).toNatClampNeg) h21) fun v33 h31 => if v23 = v33 then (some (.inl ((y3 + (4 : Int32)), h31))) else (some (.inr (.inr ((0 : Int32), h31)))))))))))))) else if ((hpI h a9 y3.toNatClampNeg) &&& (31 : Int32)) = (1 : Int32) then (gd (inb (y3 + (1 : Int32)) (hpL h a9)) (gd (inb (y3 + (2 : Int32)) (hpL h a9)) (dr y1 fun a38 => gd (isK h a38 0) (cl (f_X_remove a38 (hpI h a9 (y3 + (1 : Int32)).toNatClampNeg) (hpI h a9 (y3 + (2 : Int32)).toNatClampNeg) h) fun v43 h41 => gd (isA h41 a9 0) (gd (inb (y3 + (1 : Int32)) (hpL h41 a9)) (gd (inb (y3 + (2 : Int32)) (hpL h41 a9)) (dr y2 fun a47 => gd (isK h41 a47 8) (cl (f_M_remove a47 (hpI h41 a9 (y3 + (1 : Int32)).toNatClampNeg) (hpI h41 a9 (y3 + (2 : Int32)).toNatClampNeg) h41) fun v52 h50 => if v43 = v52 then (some (.inl ((y3 + (4 : Int32)), h50))) else (some (.inr (.inr ((0 : Int32), h50)))))))))))) else if ((hpI h a9 y3.toNatClampNeg) &&& (31 : Int32)) = (2 : Int32) then (gd (inb (y3 + (1 : Int32)) (hpL h a9)) (gd (inb (y3 + (2 : Int32)) (hpL h a9)) (dr y1 fun a57 => gd (isK h a57 0) (cl (f_X_get a57 (hpI h a9 (y3 + (1 : Int32)).toNatClampNeg) (hpI h a9 (y3 + (2 : Int32)).toNatClampNeg) h) fun v62 h60 => gd (isA h60 a9 0) (gd (inb (y3 + (1 : Int32)) (hpL h60 a9)) (gd (inb (y3 + (2 : Int32)) (hpL h60 a9)) (dr y2 fun a66 => gd (isK h60 a66 8) (cl (f_M_get a66 (hpI h60 a9 (y3 + (1 : Int32)).toNatClampNeg) (hpI h60 a9 (y3 + (2 : Int32)).toNatClampNeg) h60) fun v71 h69 => if (lg_cmp v62 v71) = 0 then (some (.inl ((y3 + (4 : Int32)), h69))) else (some (.inr (.inr ((0 : Int32), h69)))))))))))) else if ((hpI h a9 y3.toNatClampNeg) &&& (31 : Int32)) = (3 : Int32) then (gd (inb (y3 + (1 : Int32)) (hpL h a9)) (gd (inb (y3 + (2 : Int32)) (hpL h a9)) (gd (inb (y3 + (3 : Int32)) (hpL h a9)) (dr y1 fun a77 => gd (isK h a77 0) (cl (f_X_at a77 (hpI h a9 (y3 + (1 : Int32)).toNatClampNeg) (hpI h a9 (y3 + (2 : Int32)).toNatClampNeg) (hpI h a9 (y3 + (3 : Int32)).toNatClampNeg) h) fun v82 h80 => gd (isA h80 a9 0) (gd (inb (y3 + (1 : Int32)) (hpL h80 a9)) (gd (inb (y3 + (2 : Int32)) (hpL h80 a9)) (gd (inb (y3 + (3 : Int32)) (hpL h80 a9)) (dr y2 fun a87 => gd (isK h80 a87 8) (cl (f_M_at a87 (hpI h80 a9 (y3 + (1 : Int32)).toNatClampNeg) (hpI h80 a9 (y3 + (2 : Int32)).toNatClampNeg) (hpI h80 a9 (y3 + (3 : Int32)).toNatClampNeg) h80) fun v92 h90 => if (lg_cmp v82 v92) = 0 then (some (.inl ((y3 + (4 : Int32)), h90))) else (some (.inr (.inr ((0 : Int32), h90)))))))))))))) else if ((hpI h a9 y3.toNatClampNeg) &&& (31 : Int32)) = (4 : Int32) then (gd (inb (y3 + (1 : Int32)) (hpL h a9)) (gd (inb (y3 + (2 : Int32)) (hpL h a9)) (dr y1 fun a97 => gd (isK h a97 0) (cl (f_X_next a97 (hpI h a9 (y3 + (1 : Int32)).toNatClampNeg) (hpI h a9 (y3 + (2 : Int32)).toNatClampNeg) h) fun v102 h100 => gd (isA h100 a9 0) (gd (inb (y3 + (1 : Int32)) (hpL h100 a9)) (gd (inb (y3 + (2 : Int32)) (hpL h100 a9)) (dr y2 fun a106 => gd (isK h100 a106 8) (cl (f_M_next a106 (hpI h100 a9 (y3 + (1 : Int32)).toNatClampNeg) (hpI h100 a9 (y3 + (2 : Int32)).toNatClampNeg) h100) fun v111 h109 => if v102 = v111 then (some (.inl ((y3 + (4 : Int32)), h109))) else (some (.inr (.inr ((0 : Int32), h109)))))))))))) else if ((hpI h a9 y3.toNatClampNeg) &&& (31 : Int32)) = (5 : Int32) then (dr y1 fun a114 => gd (isK h a114 0) (cl (f_X_commit E a114 h) fun v119 h117 => dr y2 fun a120 => gd (isK h117 a120 8) (cl (f_M_commit a120 h117) fun v125 h123 => if v119 = v125 then (some (.inl ((y3 + (4 : Int32)), h123))) else (some (.inr (.inr ((0 : Int32), h123))))))) else if ((hpI h a9 y3.toNatClampNeg) &&& (31 : Int32)) = (6 : Int32) then (gd (inb (y3 + (1 : Int32)) (hpL h a9)) (dr y1 fun a129 => gd (isK h a129 0) (cl (f_X_rollback E a129 (hpI h a9 (y3 + (1 : Int32)).toNatClampNeg) h) fun v134 h132 => gd (isA h132 a9 0) (gd (inb (y3 + (1 : Int32)) (hpL h132 a9)) (dr y2 fun a137 => gd (isK h132 a137 8) (cl (f_M_rollback a137 (hpI h132 a9 (y3 + (1 : Int32)).toNatClampNeg) h132) fun v142 h140 => if v134 = v142 then (some (.inl ((y3 + (4 : Int32)), h140))) else (some (.inr (.inr ((0 : Int32), h140)))))))))) else if ((hpI h a9 y3.toNatClampNeg) &&& (31 : Int32)) = (7 : Int32) then (gd (inb (y3 + (1 : Int32)) (hpL h a9)) (dr y1 fun a146 => gd (isK h a146 0) (cl (f_X_pin a146 (hpI h a9 (y3 + (1 : Int32)).toNatClampNeg) h) fun v151 h149 => gd (isA h149 a9 0) (gd (inb (y3 + (1 : Int32)) (hpL h149 a9)) (dr y2 fun a154 => gd (isK h149 a154 8) (cl (f_M_pin a154 (hpI h149 a9 (y3 + (1 : Int32)).toNatClampNeg) h149) fun v159 h157 => if v151 = v159 then (some (.inl ((y3 + (4 : Int32)), h157))) else (some (.inr (.inr ((0 : Int32), h157)))))))))) else if ((hpI h a9 y3.toNatClampNeg) &&& (31 : Int32)) = (8 : Int32) then (gd (inb (y3 + (1 : Int32)) (hpL h a9)) (dr y1 fun a163 => gd (isK h a163 0) (cl (f_X_unpin a163 (hpI h a9 (y3 + (1 : Int32)).toNatClampNeg) h) fun v168 h166 => gd (isA h166 a9 0) (gd (inb (y3 + (1 : Int32)) (hpL h166 a9)) (dr y2 fun a171 => gd (isK h166 a171 8) (cl (f_M_unpin a171 (hpI h166 a9 (y3 + (1 : Int32)).toNatClampNeg) h166) fun v176 h174 => if v168 = v176 then (some (.inl ((y3 + (4 : Int32)), h174))) else (some (.inr (.inr ((0 : Int32), h174)))))))))) else if ((hpI h a9 y3.toNatClampNeg) &&& (31 : Int32)) = (9 : Int32) then (gd (inb (y3 + (1 : Int32)) (hpL h a9)) (dr y1 fun a180 => gd (isK h a180 0) (cl (f_X_hold a180 (hpI h a9 (y3 + (1 : Int32)).toNatClampNeg) h) fun v185 h183 => gd (isA h183 a9 0) (gd (inb (y3 + (1 : Int32)) (hpL h183 a9)) (dr y2 fun a188 => gd (isK h183 a188 8) (cl (f_M_hold a188 (hpI h183 a9 (y3 + (1 : Int32)).toNatClampNeg) h183) fun v193 h191 => if v185 = v193 then (some (.inl ((y3 + (4 : Int32)), h191))) else (some (.inr (.inr ((0 : Int32), h191)))))))))) else if ((hpI h a9 y3.toNatClampNeg) &&& (31 : Int32)) = (10 : Int32) then (dr y1 fun a196 => gd (isK h a196 0) (cl (f_X_sync a196 h) fun v201 h199 => dr y2 fun a202 => gd (isK h199 a202 8) (cl (f_M_sync a202 h199) fun v207 h205 => if v201 = v207 then (some (.inl ((y3 + (4 : Int32)), h205))) else (some (.inr (.inr ((0 : Int32), h205))))))) else if ((hpI h a9 y3.toNatClampNeg) &&& (31 : Int32)) = (11 : Int32) then (gd (inb (y3 + (1 : Int32)) (hpL h a9)) (dr y1 fun a211 => gd (isK h a211 0) (cl (f_X_compact a211 (hpI h a9 (y3 + (1 : Int32)).toNatClampNeg) h) fun v216 h214 => gd (isA h214 a9 0) (gd (inb (y3 + (1 : Int32)) (hpL h214 a9)) (dr y2 fun a219 => gd (isK h214 a219 8) (cl (f_M_compact a219 (hpI h214 a9 (y3 + (1 : Int32)).toNatClampNeg) h214) fun v224 h222 => if v216 = v224 then (some (.inl ((y3 + (4 : Int32)), h222))) else (some (.inr (.inr ((0 : Int32), h222)))))))))) else if ((hpI h a9 y3.toNatClampNeg) &&& (31 : Int32)) = (12 : Int32) then (gd (inb (y3 + (1 : Int32)) (hpL h a9)) (gd (inb (y3 + (2 : Int32)) (hpL h a9)) (dr y1 fun a229 => gd (isK h a229 0) (cl (f_X_crash E a229 (hpI h a9 (y3 + (1 : Int32)).toNatClampNeg) (hpI h a9 (y3 + (2 : Int32)).toNatClampNeg) h) fun v234 h232 => gd (isA h232 a9 0) (gd (inb (y3 + (1 : Int32)) (hpL h232 a9)) (gd (inb (y3 + (2 : Int32)) (hpL h232 a9)) (dr y2 fun a238 => gd (isK h232 a238 8) (cl (f_M_crash a238 (hpI h232 a9 (y3 + (1 : Int32)).toNatClampNeg) (hpI h232 a9 (y3 + (2 : Int32)).toNatClampNeg) h232) fun v243 h241 => if v234 = v243 then (some (.inl ((y3 + (4 : Int32)), h241))) else (some (.inr (.inr ((0 : Int32), h241)))))))))))) else if ((hpI h a9 y3.toNatClampNeg) &&& (31 : Int32)) = (13 : Int32) then (gd (inb (y3 + (1 : Int32)) (hpL h a9)) (gd (inb (y3 + (2 : Int32)) (hpL h a9)) (dr y1 fun a248 => gd (isK h a248 0) (cl (f_X_chunk a248 (hpI h a9 (y3 + (1 : Int32)).toNatClampNeg) (hpI h a9 (y3 + (2 : Int32)).toNatClampNeg) h) fun v253 h251 => gd (isA h251 a9 0) (gd (inb (y3 + (1 : Int32)) (hpL h251 a9)) (gd (inb (y3 + (2 : Int32)) (hpL h251 a9)) (dr y2 fun a257 => gd (isK h251 a257 8) (cl (f_M_chunk a257 (hpI h251 a9 (y3 + (1 : Int32)).toNatClampNeg) (hpI h251 a9 (y3 + (2 : Int32)).toNatClampNeg) h251) fun v262 h260 => if v253 = v262 then (some (.inl ((y3 + (4 : Int32)), h260))) else (some (.inr (.inr ((0 : Int32), h260)))))))))))) else if ((hpI h a9 y3.toNatClampNeg) &&& (31 : Int32)) = (14 : Int32) then (gd (inb (y3 + (1 : Int32)) (hpL h a9)) (gd (inb (y3 + (2 : Int32)) (hpL h a9)) (dr y1 fun a267 => gd (isK h a267 0) (cl (f_X_block a267 (hpI h a9 (y3 + (1 : Int32)).toNatClampNeg) (hpI h a9 (y3 + (2 : Int32)).toNatClampNeg) h) fun v272 h270 => gd (isA h270 a9 0) (gd (inb (y3 + (1 : Int32)) (hpL h270 a9)) (gd (inb (y3 + (2 : Int32)) (hpL h270 a9)) (dr y2 fun a276 => gd (isK h270 a276 8) (cl (f_M_block a276 (hpI h270 a9 (y3 + (1 : Int32)).toNatClampNeg) (hpI h270 a9 (y3 + (2 : Int32)).toNatClampNeg) h270) fun v281 h279 => if v272 = v281 then (some (.inl ((y3 + (4 : Int32)), h279))) else (some (.inr (.inr ((0 : Int32), h279)))))))))))) else if ((hpI h a9 y3.toNatClampNeg) &&& (31 : Int32)) = (15 : Int32) then (gd (inb (y3 + (1 : Int32)) (hpL h a9)) (dr y1 fun a285 => gd (isK h a285 0) (cl (f_X_kept a285 (hpI h a9 (y3 + (1 : Int32)).toNatClampNeg) h) fun v290 h288 => gd (isA h288 a9 0) (gd (inb (y3 + (1 : Int32)) (hpL h288 a9)) (dr y2 fun a293 => gd (isK h288 a293 8) (cl (f_M_kept a293 (hpI h288 a9 (y3 + (1 : Int32)).toNatClampNeg) h288) fun v298 h296 => if v290 = v298 then (some (.inl ((y3 + (4 : Int32)), h296))) else (some (.inr (.inr ((0 : Int32), h296)))))))))) else if ((hpI h a9 y3.toNatClampNeg) &&& (31 : Int32)) = (16 : Int32) then (gd (inb (y3 + (1 : Int32)) (hpL h a9)) (dr y1 fun a302 => gd (isK h a302 0) (cl (f_X_count a302 (hpI h a9 (y3 + (1 : Int32)).toNatClampNeg) h) fun v307 h305 => gd (isA h305 a9 0) (gd (inb (y3 + (1 : Int32)) (hpL h305 a9)) (dr y2 fun a310 => gd (isK h305 a310 8) (cl (f_M_count a310 (hpI h305 a9 (y3 + (1 : Int32)).toNatClampNeg) h305) fun v315 h313 => if v307 = v315 then (some (.inl ((y3 + (4 : Int32)), h313))) else (some (.inr (.inr ((0 : Int32), h313)))))))))) else (some (.inl ((y3 + (4 : Int32)), h))))))
set_option maxRecDepth 100000 in
set_option maxHeartbeats 4000000 in
theorem zb_law_18 {l : Launch} {C : Ct} {mi : Nat} {y0 : Option Nat} {y1 : Option Nat} {y2 : Option Nat} {y3 : Int32} {h h' : Hp} {v : Int32} {q : ((Int32 × Hp) ⊕ ((Hp) ⊕ (Int32 × Hp)))} (hf : b_law_18 (cE C, mi) y0 y1 y2 y3 h = some q) (kc : ∀ s, q = .inl s → Z l C mi m_law 9 18 [(0, vr y0), (1, vr y1), (2, vr y2), (3, vi s.1)] [] s.2 (some (vi v)) h') (ke : ∀ x, q = .inr (.inl x) → Z l C mi m_law 9 595 [] [] x (some (vi v)) h') (kr : ∀ rv rh, q = .inr (.inr (rv, rh)) → v = rv ∧ h' = rh) : Z l C mi m_law 9 18 [(0, vr y0), (1, vr y1), (2, vr y2), (3, vi y3)] [] h (some (vi v)) h' := by
  unfold b_law_18 at hf
  refine z_iload_n 3 d_law_18 rfl rfl ?_
  refine z_aload_n 0 d_law_19 rfl rfl ?_
  obtain ⟨a9, e10, hf⟩ := dr_some hf
  obtain ⟨g11, hf⟩ := gd_some hf
  refine z_alen d_law_20 e10 (isA_eq g11).1 ?_
  refine z_iconst (v := (4 : Int32)) d_law_21 rfl ?_
  refine z_isub d_law_22 ?_
  refine z_icmp_gt (tgt := 595) d_law_23 (by decide) (fun c12 => ?_) (fun c12 => ?_)
  · rw [if_pos c12] at hf
    refine z_ls [] rfl ?_
    exact ke h (Option.some.inj hf).symm
  · rw [if_neg c12] at hf
    refine z_aload_n 0 d_law_26 rfl rfl ?_
    refine z_iload_n 3 d_law_27 rfl rfl ?_
    obtain ⟨g13, hf⟩ := gd_some hf
    refine z_iald d_law_28 e10 (isA_eq g11).1 (isA_eq g11).2 (inb_vp g13) ?_
    refine z_bipush (v := (31 : Int32)) d_law_29 (by decide) ?_
    refine z_iand d_law_31 ?_
    by_cases c14 : ((hpI h a9 y3.toNatClampNeg) &&& (31 : Int32)) = (0 : Int32)
    · rw [if_pos c14] at hf
      refine z_tabIn (off := 84) (tgt := 116) d_law_32 (by rw [c14]; decide) (by rw [c14]; decide) (by rw [c14]; rfl) (by decide) ?_
      refine z_aload_n 1 d_law_116 rfl rfl ?_
      refine z_aload_n 0 d_law_117 rfl rfl ?_
      refine z_iload_n 3 d_law_118 rfl rfl ?_
      refine z_iconst (v := (1 : Int32)) d_law_119 rfl ?_
      refine z_iadd d_law_120 ?_
      obtain ⟨g15, hf⟩ := gd_some hf
      refine z_iald d_law_121 e10 (isA_eq g11).1 (isA_eq g11).2 (inb_vp g15) ?_
      refine z_aload_n 0 d_law_122 rfl rfl ?_
      refine z_iload_n 3 d_law_123 rfl rfl ?_
      refine z_iconst (v := (2 : Int32)) d_law_124 rfl ?_
      refine z_iadd d_law_125 ?_
      obtain ⟨g16, hf⟩ := gd_some hf
      refine z_iald d_law_126 e10 (isA_eq g11).1 (isA_eq g11).2 (inb_vp g16) ?_
      refine z_aload_n 0 d_law_127 rfl rfl ?_
      refine z_iload_n 3 d_law_128 rfl rfl ?_
      refine z_iconst (v := (3 : Int32)) d_law_129 rfl ?_
      refine z_iadd d_law_130 ?_
      obtain ⟨g17, hf⟩ := gd_some hf
      refine z_iald d_law_131 e10 (isA_eq g11).1 (isA_eq g11).2 (inb_vp g17) ?_
      obtain ⟨a18, e19, hf⟩ := dr_some hf
      obtain ⟨g20, hf⟩ := gd_some hf
      obtain ⟨v23, h21, ec22, hf⟩ := cl_some hf
      refine z_callVx e19 (c_X_put ec22) d_law_132 cw_X_put lk_Law_13 im_X_put se_X_put (kc_K (isK_eq g20) kc_0) ⟨by decide, by decide⟩ (Nat.le_of_ble_eq_true rfl) rfl ?_
      refine z_aload_n 2 d_law_135 rfl rfl ?_
      refine z_aload_n 0 d_law_136 rfl rfl ?_
      refine z_iload_n 3 d_law_137 rfl rfl ?_
      refine z_iconst (v := (1 : Int32)) d_law_138 rfl ?_
      refine z_iadd d_law_139 ?_
      obtain ⟨g24, hf⟩ := gd_some hf
      obtain ⟨g25, hf⟩ := gd_some hf
      refine z_iald d_law_140 e10 (isA_eq g24).1 (isA_eq g24).2 (inb_vp g25) ?_
      refine z_aload_n 0 d_law_141 rfl rfl ?_
      refine z_iload_n 3 d_law_142 rfl rfl ?_
      refine z_iconst (v := (2 : Int32)) d_law_143 rfl ?_
      refine z_iadd d_law_144 ?_
      obtain ⟨g26, hf⟩ := gd_some hf
      refine z_iald d_law_145 e10 (isA_eq g24).1 (isA_eq g24).2 (inb_vp g26) ?_
      refine z_aload_n 0 d_law_146 rfl rfl ?_
      refine z_iload_n 3 d_law_147 rfl rfl ?_
      refine z_iconst (v := (3 : Int32)) d_law_148 rfl ?_
      refine z_iadd d_law_149 ?_
      obtain ⟨g27, hf⟩ := gd_some hf
      refine z_iald d_law_150 e10 (isA_eq g24).1 (isA_eq g24).2 (inb_vp g27) ?_
      obtain ⟨a28, e29, hf⟩ := dr_some hf
      obtain ⟨g30, hf⟩ := gd_some hf
      obtain ⟨v33, h31, ec32, hf⟩ := cl_some hf
      refine z_callVx e29 (c_M_put ec32) d_law_151 cw_M_put lk_Law_17 im_M_put se_M_put (kc_K (isK_eq g30) kc_8) ⟨by decide, by decide⟩ (Nat.le_of_ble_eq_true rfl) rfl ?_
      refine z_icmp_eq (tgt := 589) d_law_154 (by decide) (fun c34 => ?_) (fun c34 => ?_)
      · rw [if_pos c34] at hf
        refine z_iinc (ls2 := [(3, vi (y3 + (4 : Int32))), (0, vr y0), (1, vr y1), (2, vr y2)]) 3 d_law_589 rfl rfl (by decide) rfl ?_
        refine z_goto (tgt := 18) d_law_592 (by decide) ?_
        refine z_ls [1, 2, 3, 0] rfl ?_
        exact kc ((y3 + (4 : Int32)), h31) (Option.some.inj hf).symm
      · rw [if_neg c34] at hf
        refine z_iconst (v := (0 : Int32)) d_law_157 rfl ?_
        obtain ⟨rfl, rfl⟩ := kr _ _ (Option.some.inj hf).symm
        exact z_ret d_law_158 rfl
    rw [if_neg c14] at hf
    by_cases c35 : ((hpI h a9 y3.toNatClampNeg) &&& (31 : Int32)) = (1 : Int32)
    · rw [if_pos c35] at hf
      refine z_tabIn (off := 127) (tgt := 159) d_law_32 (by rw [c35]; decide) (by rw [c35]; decide) (by rw [c35]; rfl) (by decide) ?_
      refine z_aload_n 1 d_law_159 rfl rfl ?_
      refine z_aload_n 0 d_law_160 rfl rfl ?_
      refine z_iload_n 3 d_law_161 rfl rfl ?_
      refine z_iconst (v := (1 : Int32)) d_law_162 rfl ?_
      refine z_iadd d_law_163 ?_
      obtain ⟨g36, hf⟩ := gd_some hf
      refine z_iald d_law_164 e10 (isA_eq g11).1 (isA_eq g11).2 (inb_vp g36) ?_
      refine z_aload_n 0 d_law_165 rfl rfl ?_
      refine z_iload_n 3 d_law_166 rfl rfl ?_
      refine z_iconst (v := (2 : Int32)) d_law_167 rfl ?_
      refine z_iadd d_law_168 ?_
      obtain ⟨g37, hf⟩ := gd_some hf
      refine z_iald d_law_169 e10 (isA_eq g11).1 (isA_eq g11).2 (inb_vp g37) ?_
      obtain ⟨a38, e39, hf⟩ := dr_some hf
      obtain ⟨g40, hf⟩ := gd_some hf
      obtain ⟨v43, h41, ec42, hf⟩ := cl_some hf
      refine z_callVx e39 (c_X_remove ec42) d_law_170 cw_X_remove lk_Law_18 im_X_remove se_X_remove (kc_K (isK_eq g40) kc_0) ⟨by decide, by decide⟩ (Nat.le_of_ble_eq_true rfl) rfl ?_
      refine z_aload_n 2 d_law_173 rfl rfl ?_
      refine z_aload_n 0 d_law_174 rfl rfl ?_
      refine z_iload_n 3 d_law_175 rfl rfl ?_
      refine z_iconst (v := (1 : Int32)) d_law_176 rfl ?_
      refine z_iadd d_law_177 ?_
      obtain ⟨g44, hf⟩ := gd_some hf
      obtain ⟨g45, hf⟩ := gd_some hf
      refine z_iald d_law_178 e10 (isA_eq g44).1 (isA_eq g44).2 (inb_vp g45) ?_
      refine z_aload_n 0 d_law_179 rfl rfl ?_
      refine z_iload_n 3 d_law_180 rfl rfl ?_
      refine z_iconst (v := (2 : Int32)) d_law_181 rfl ?_
      refine z_iadd d_law_182 ?_
      obtain ⟨g46, hf⟩ := gd_some hf
      refine z_iald d_law_183 e10 (isA_eq g44).1 (isA_eq g44).2 (inb_vp g46) ?_
      obtain ⟨a47, e48, hf⟩ := dr_some hf
      obtain ⟨g49, hf⟩ := gd_some hf
      obtain ⟨v52, h50, ec51, hf⟩ := cl_some hf
      refine z_callVx e48 (c_M_remove ec51) d_law_184 cw_M_remove lk_Law_22 im_M_remove se_M_remove (kc_K (isK_eq g49) kc_8) ⟨by decide, by decide⟩ (Nat.le_of_ble_eq_true rfl) rfl ?_
      refine z_icmp_eq (tgt := 589) d_law_187 (by decide) (fun c53 => ?_) (fun c53 => ?_)
      · rw [if_pos c53] at hf
        refine z_iinc (ls2 := [(3, vi (y3 + (4 : Int32))), (0, vr y0), (1, vr y1), (2, vr y2)]) 3 d_law_589 rfl rfl (by decide) rfl ?_
        refine z_goto (tgt := 18) d_law_592 (by decide) ?_
        refine z_ls [1, 2, 3, 0] rfl ?_
        exact kc ((y3 + (4 : Int32)), h50) (Option.some.inj hf).symm
      · rw [if_neg c53] at hf
        refine z_iconst (v := (0 : Int32)) d_law_190 rfl ?_
        obtain ⟨rfl, rfl⟩ := kr _ _ (Option.some.inj hf).symm
        exact z_ret d_law_191 rfl
    rw [if_neg c35] at hf
    by_cases c54 : ((hpI h a9 y3.toNatClampNeg) &&& (31 : Int32)) = (2 : Int32)
    · rw [if_pos c54] at hf
      refine z_tabIn (off := 160) (tgt := 192) d_law_32 (by rw [c54]; decide) (by rw [c54]; decide) (by rw [c54]; rfl) (by decide) ?_
      refine z_aload_n 1 d_law_192 rfl rfl ?_
      refine z_aload_n 0 d_law_193 rfl rfl ?_
      refine z_iload_n 3 d_law_194 rfl rfl ?_
      refine z_iconst (v := (1 : Int32)) d_law_195 rfl ?_
      refine z_iadd d_law_196 ?_
      obtain ⟨g55, hf⟩ := gd_some hf
      refine z_iald d_law_197 e10 (isA_eq g11).1 (isA_eq g11).2 (inb_vp g55) ?_
      refine z_aload_n 0 d_law_198 rfl rfl ?_
      refine z_iload_n 3 d_law_199 rfl rfl ?_
      refine z_iconst (v := (2 : Int32)) d_law_200 rfl ?_
      refine z_iadd d_law_201 ?_
      obtain ⟨g56, hf⟩ := gd_some hf
      refine z_iald d_law_202 e10 (isA_eq g11).1 (isA_eq g11).2 (inb_vp g56) ?_
      obtain ⟨a57, e58, hf⟩ := dr_some hf
      obtain ⟨g59, hf⟩ := gd_some hf
      obtain ⟨v62, h60, ec61, hf⟩ := cl_some hf
      refine z_callVx e58 (c_X_get ec61) d_law_203 cw_X_get lk_Law_23 im_X_get se_X_get (kc_K (isK_eq g59) kc_0) ⟨by decide, by decide⟩ (Nat.le_of_ble_eq_true rfl) rfl ?_
      refine z_aload_n 2 d_law_206 rfl rfl ?_
      refine z_aload_n 0 d_law_207 rfl rfl ?_
      refine z_iload_n 3 d_law_208 rfl rfl ?_
      refine z_iconst (v := (1 : Int32)) d_law_209 rfl ?_
      refine z_iadd d_law_210 ?_
      obtain ⟨g63, hf⟩ := gd_some hf
      obtain ⟨g64, hf⟩ := gd_some hf
      refine z_iald d_law_211 e10 (isA_eq g63).1 (isA_eq g63).2 (inb_vp g64) ?_
      refine z_aload_n 0 d_law_212 rfl rfl ?_
      refine z_iload_n 3 d_law_213 rfl rfl ?_
      refine z_iconst (v := (2 : Int32)) d_law_214 rfl ?_
      refine z_iadd d_law_215 ?_
      obtain ⟨g65, hf⟩ := gd_some hf
      refine z_iald d_law_216 e10 (isA_eq g63).1 (isA_eq g63).2 (inb_vp g65) ?_
      obtain ⟨a66, e67, hf⟩ := dr_some hf
      obtain ⟨g68, hf⟩ := gd_some hf
      obtain ⟨v71, h69, ec70, hf⟩ := cl_some hf
      refine z_callVx e67 (c_M_get ec70) d_law_217 cw_M_get lk_Law_27 im_M_get se_M_get (kc_K (isK_eq g68) kc_8) ⟨by decide, by decide⟩ (Nat.le_of_ble_eq_true rfl) rfl ?_
      refine z_lcmp d_law_220 ?_
      refine z_if_eq (tgt := 589) d_law_221 (by decide) (fun c72 => ?_) (fun c72 => ?_)
      · rw [if_pos c72] at hf
        refine z_iinc (ls2 := [(3, vi (y3 + (4 : Int32))), (0, vr y0), (1, vr y1), (2, vr y2)]) 3 d_law_589 rfl rfl (by decide) rfl ?_
        refine z_goto (tgt := 18) d_law_592 (by decide) ?_
        refine z_ls [1, 2, 3, 0] rfl ?_
        exact kc ((y3 + (4 : Int32)), h69) (Option.some.inj hf).symm
      · rw [if_neg c72] at hf
        refine z_iconst (v := (0 : Int32)) d_law_224 rfl ?_
        obtain ⟨rfl, rfl⟩ := kr _ _ (Option.some.inj hf).symm
        exact z_ret d_law_225 rfl
    rw [if_neg c54] at hf
    by_cases c73 : ((hpI h a9 y3.toNatClampNeg) &&& (31 : Int32)) = (3 : Int32)
    · rw [if_pos c73] at hf
      refine z_tabIn (off := 194) (tgt := 226) d_law_32 (by rw [c73]; decide) (by rw [c73]; decide) (by rw [c73]; rfl) (by decide) ?_
      refine z_aload_n 1 d_law_226 rfl rfl ?_
      refine z_aload_n 0 d_law_227 rfl rfl ?_
      refine z_iload_n 3 d_law_228 rfl rfl ?_
      refine z_iconst (v := (1 : Int32)) d_law_229 rfl ?_
      refine z_iadd d_law_230 ?_
      obtain ⟨g74, hf⟩ := gd_some hf
      refine z_iald d_law_231 e10 (isA_eq g11).1 (isA_eq g11).2 (inb_vp g74) ?_
      refine z_aload_n 0 d_law_232 rfl rfl ?_
      refine z_iload_n 3 d_law_233 rfl rfl ?_
      refine z_iconst (v := (2 : Int32)) d_law_234 rfl ?_
      refine z_iadd d_law_235 ?_
      obtain ⟨g75, hf⟩ := gd_some hf
      refine z_iald d_law_236 e10 (isA_eq g11).1 (isA_eq g11).2 (inb_vp g75) ?_
      refine z_aload_n 0 d_law_237 rfl rfl ?_
      refine z_iload_n 3 d_law_238 rfl rfl ?_
      refine z_iconst (v := (3 : Int32)) d_law_239 rfl ?_
      refine z_iadd d_law_240 ?_
      obtain ⟨g76, hf⟩ := gd_some hf
      refine z_iald d_law_241 e10 (isA_eq g11).1 (isA_eq g11).2 (inb_vp g76) ?_
      obtain ⟨a77, e78, hf⟩ := dr_some hf
      obtain ⟨g79, hf⟩ := gd_some hf
      obtain ⟨v82, h80, ec81, hf⟩ := cl_some hf
      refine z_callVx e78 (c_X_at ec81) d_law_242 cw_X_at lk_Law_28 im_X_at se_X_at (kc_K (isK_eq g79) kc_0) ⟨by decide, by decide⟩ (Nat.le_of_ble_eq_true rfl) rfl ?_
      refine z_aload_n 2 d_law_245 rfl rfl ?_
      refine z_aload_n 0 d_law_246 rfl rfl ?_
      refine z_iload_n 3 d_law_247 rfl rfl ?_
      refine z_iconst (v := (1 : Int32)) d_law_248 rfl ?_
      refine z_iadd d_law_249 ?_
      obtain ⟨g83, hf⟩ := gd_some hf
      obtain ⟨g84, hf⟩ := gd_some hf
      refine z_iald d_law_250 e10 (isA_eq g83).1 (isA_eq g83).2 (inb_vp g84) ?_
      refine z_aload_n 0 d_law_251 rfl rfl ?_
      refine z_iload_n 3 d_law_252 rfl rfl ?_
      refine z_iconst (v := (2 : Int32)) d_law_253 rfl ?_
      refine z_iadd d_law_254 ?_
      obtain ⟨g85, hf⟩ := gd_some hf
      refine z_iald d_law_255 e10 (isA_eq g83).1 (isA_eq g83).2 (inb_vp g85) ?_
      refine z_aload_n 0 d_law_256 rfl rfl ?_
      refine z_iload_n 3 d_law_257 rfl rfl ?_
      refine z_iconst (v := (3 : Int32)) d_law_258 rfl ?_
      refine z_iadd d_law_259 ?_
      obtain ⟨g86, hf⟩ := gd_some hf
      refine z_iald d_law_260 e10 (isA_eq g83).1 (isA_eq g83).2 (inb_vp g86) ?_
      obtain ⟨a87, e88, hf⟩ := dr_some hf
      obtain ⟨g89, hf⟩ := gd_some hf
      obtain ⟨v92, h90, ec91, hf⟩ := cl_some hf
      refine z_callVx e88 (c_M_at ec91) d_law_261 cw_M_at lk_Law_32 im_M_at se_M_at (kc_K (isK_eq g89) kc_8) ⟨by decide, by decide⟩ (Nat.le_of_ble_eq_true rfl) rfl ?_
      refine z_lcmp d_law_264 ?_
      refine z_if_eq (tgt := 589) d_law_265 (by decide) (fun c93 => ?_) (fun c93 => ?_)
      · rw [if_pos c93] at hf
        refine z_iinc (ls2 := [(3, vi (y3 + (4 : Int32))), (0, vr y0), (1, vr y1), (2, vr y2)]) 3 d_law_589 rfl rfl (by decide) rfl ?_
        refine z_goto (tgt := 18) d_law_592 (by decide) ?_
        refine z_ls [1, 2, 3, 0] rfl ?_
        exact kc ((y3 + (4 : Int32)), h90) (Option.some.inj hf).symm
      · rw [if_neg c93] at hf
        refine z_iconst (v := (0 : Int32)) d_law_268 rfl ?_
        obtain ⟨rfl, rfl⟩ := kr _ _ (Option.some.inj hf).symm
        exact z_ret d_law_269 rfl
    rw [if_neg c73] at hf
    by_cases c94 : ((hpI h a9 y3.toNatClampNeg) &&& (31 : Int32)) = (4 : Int32)
    · rw [if_pos c94] at hf
      refine z_tabIn (off := 238) (tgt := 270) d_law_32 (by rw [c94]; decide) (by rw [c94]; decide) (by rw [c94]; rfl) (by decide) ?_
      refine z_aload_n 1 d_law_270 rfl rfl ?_
      refine z_aload_n 0 d_law_271 rfl rfl ?_
      refine z_iload_n 3 d_law_272 rfl rfl ?_
      refine z_iconst (v := (1 : Int32)) d_law_273 rfl ?_
      refine z_iadd d_law_274 ?_
      obtain ⟨g95, hf⟩ := gd_some hf
      refine z_iald d_law_275 e10 (isA_eq g11).1 (isA_eq g11).2 (inb_vp g95) ?_
      refine z_aload_n 0 d_law_276 rfl rfl ?_
      refine z_iload_n 3 d_law_277 rfl rfl ?_
      refine z_iconst (v := (2 : Int32)) d_law_278 rfl ?_
      refine z_iadd d_law_279 ?_
      obtain ⟨g96, hf⟩ := gd_some hf
      refine z_iald d_law_280 e10 (isA_eq g11).1 (isA_eq g11).2 (inb_vp g96) ?_
      obtain ⟨a97, e98, hf⟩ := dr_some hf
      obtain ⟨g99, hf⟩ := gd_some hf
      obtain ⟨v102, h100, ec101, hf⟩ := cl_some hf
      refine z_callVx e98 (c_X_next ec101) d_law_281 cw_X_next lk_Law_33 im_X_next se_X_next (kc_K (isK_eq g99) kc_0) ⟨by decide, by decide⟩ (Nat.le_of_ble_eq_true rfl) rfl ?_
      refine z_aload_n 2 d_law_284 rfl rfl ?_
      refine z_aload_n 0 d_law_285 rfl rfl ?_
      refine z_iload_n 3 d_law_286 rfl rfl ?_
      refine z_iconst (v := (1 : Int32)) d_law_287 rfl ?_
      refine z_iadd d_law_288 ?_
      obtain ⟨g103, hf⟩ := gd_some hf
      obtain ⟨g104, hf⟩ := gd_some hf
      refine z_iald d_law_289 e10 (isA_eq g103).1 (isA_eq g103).2 (inb_vp g104) ?_
      refine z_aload_n 0 d_law_290 rfl rfl ?_
      refine z_iload_n 3 d_law_291 rfl rfl ?_
      refine z_iconst (v := (2 : Int32)) d_law_292 rfl ?_
      refine z_iadd d_law_293 ?_
      obtain ⟨g105, hf⟩ := gd_some hf
      refine z_iald d_law_294 e10 (isA_eq g103).1 (isA_eq g103).2 (inb_vp g105) ?_
      obtain ⟨a106, e107, hf⟩ := dr_some hf
      obtain ⟨g108, hf⟩ := gd_some hf
      obtain ⟨v111, h109, ec110, hf⟩ := cl_some hf
      refine z_callVx e107 (c_M_next ec110) d_law_295 cw_M_next lk_Law_36 im_M_next se_M_next (kc_K (isK_eq g108) kc_8) ⟨by decide, by decide⟩ (Nat.le_of_ble_eq_true rfl) rfl ?_
      refine z_icmp_eq (tgt := 589) d_law_298 (by decide) (fun c112 => ?_) (fun c112 => ?_)
      · rw [if_pos c112] at hf
        refine z_iinc (ls2 := [(3, vi (y3 + (4 : Int32))), (0, vr y0), (1, vr y1), (2, vr y2)]) 3 d_law_589 rfl rfl (by decide) rfl ?_
        refine z_goto (tgt := 18) d_law_592 (by decide) ?_
        refine z_ls [1, 2, 3, 0] rfl ?_
        exact kc ((y3 + (4 : Int32)), h109) (Option.some.inj hf).symm
      · rw [if_neg c112] at hf
        refine z_iconst (v := (0 : Int32)) d_law_301 rfl ?_
        obtain ⟨rfl, rfl⟩ := kr _ _ (Option.some.inj hf).symm
        exact z_ret d_law_302 rfl
    rw [if_neg c94] at hf
    by_cases c113 : ((hpI h a9 y3.toNatClampNeg) &&& (31 : Int32)) = (5 : Int32)
    · rw [if_pos c113] at hf
      refine z_tabIn (off := 271) (tgt := 303) d_law_32 (by rw [c113]; decide) (by rw [c113]; decide) (by rw [c113]; rfl) (by decide) ?_
      refine z_aload_n 1 d_law_303 rfl rfl ?_
      obtain ⟨a114, e115, hf⟩ := dr_some hf
      obtain ⟨g116, hf⟩ := gd_some hf
      obtain ⟨v119, h117, ec118, hf⟩ := cl_some hf
      refine z_callVx e115 (c_X_commit ec118) d_law_304 cw_X_commit lk_Law_37 im_X_commit se_X_commit (kc_K (isK_eq g116) kc_0) ⟨by decide, by decide⟩ (Nat.le_of_ble_eq_true rfl) rfl ?_
      refine z_aload_n 2 d_law_307 rfl rfl ?_
      obtain ⟨a120, e121, hf⟩ := dr_some hf
      obtain ⟨g122, hf⟩ := gd_some hf
      obtain ⟨v125, h123, ec124, hf⟩ := cl_some hf
      refine z_callVx e121 (c_M_commit ec124) d_law_308 cw_M_commit lk_Law_41 im_M_commit se_M_commit (kc_K (isK_eq g122) kc_8) ⟨by decide, by decide⟩ (Nat.le_of_ble_eq_true rfl) rfl ?_
      refine z_icmp_eq (tgt := 589) d_law_311 (by decide) (fun c126 => ?_) (fun c126 => ?_)
      · rw [if_pos c126] at hf
        refine z_iinc (ls2 := [(3, vi (y3 + (4 : Int32))), (0, vr y0), (1, vr y1), (2, vr y2)]) 3 d_law_589 rfl rfl (by decide) rfl ?_
        refine z_goto (tgt := 18) d_law_592 (by decide) ?_
        refine z_ls [1, 2, 3, 0] rfl ?_
        exact kc ((y3 + (4 : Int32)), h123) (Option.some.inj hf).symm
      · rw [if_neg c126] at hf
        refine z_iconst (v := (0 : Int32)) d_law_314 rfl ?_
        obtain ⟨rfl, rfl⟩ := kr _ _ (Option.some.inj hf).symm
        exact z_ret d_law_315 rfl
    rw [if_neg c113] at hf
    by_cases c127 : ((hpI h a9 y3.toNatClampNeg) &&& (31 : Int32)) = (6 : Int32)
    · rw [if_pos c127] at hf
      refine z_tabIn (off := 284) (tgt := 316) d_law_32 (by rw [c127]; decide) (by rw [c127]; decide) (by rw [c127]; rfl) (by decide) ?_
      refine z_aload_n 1 d_law_316 rfl rfl ?_
      refine z_aload_n 0 d_law_317 rfl rfl ?_
      refine z_iload_n 3 d_law_318 rfl rfl ?_
      refine z_iconst (v := (1 : Int32)) d_law_319 rfl ?_
      refine z_iadd d_law_320 ?_
      obtain ⟨g128, hf⟩ := gd_some hf
      refine z_iald d_law_321 e10 (isA_eq g11).1 (isA_eq g11).2 (inb_vp g128) ?_
      obtain ⟨a129, e130, hf⟩ := dr_some hf
      obtain ⟨g131, hf⟩ := gd_some hf
      obtain ⟨v134, h132, ec133, hf⟩ := cl_some hf
      refine z_callVx e130 (c_X_rollback ec133) d_law_322 cw_X_rollback lk_Law_42 im_X_rollback se_X_rollback (kc_K (isK_eq g131) kc_0) ⟨by decide, by decide⟩ (Nat.le_of_ble_eq_true rfl) rfl ?_
      refine z_aload_n 2 d_law_325 rfl rfl ?_
      refine z_aload_n 0 d_law_326 rfl rfl ?_
      refine z_iload_n 3 d_law_327 rfl rfl ?_
      refine z_iconst (v := (1 : Int32)) d_law_328 rfl ?_
      refine z_iadd d_law_329 ?_
      obtain ⟨g135, hf⟩ := gd_some hf
      obtain ⟨g136, hf⟩ := gd_some hf
      refine z_iald d_law_330 e10 (isA_eq g135).1 (isA_eq g135).2 (inb_vp g136) ?_
      obtain ⟨a137, e138, hf⟩ := dr_some hf
      obtain ⟨g139, hf⟩ := gd_some hf
      obtain ⟨v142, h140, ec141, hf⟩ := cl_some hf
      refine z_callVx e138 (c_M_rollback ec141) d_law_331 cw_M_rollback lk_Law_46 im_M_rollback se_M_rollback (kc_K (isK_eq g139) kc_8) ⟨by decide, by decide⟩ (Nat.le_of_ble_eq_true rfl) rfl ?_
      refine z_icmp_eq (tgt := 589) d_law_334 (by decide) (fun c143 => ?_) (fun c143 => ?_)
      · rw [if_pos c143] at hf
        refine z_iinc (ls2 := [(3, vi (y3 + (4 : Int32))), (0, vr y0), (1, vr y1), (2, vr y2)]) 3 d_law_589 rfl rfl (by decide) rfl ?_
        refine z_goto (tgt := 18) d_law_592 (by decide) ?_
        refine z_ls [1, 2, 3, 0] rfl ?_
        exact kc ((y3 + (4 : Int32)), h140) (Option.some.inj hf).symm
      · rw [if_neg c143] at hf
        refine z_iconst (v := (0 : Int32)) d_law_337 rfl ?_
        obtain ⟨rfl, rfl⟩ := kr _ _ (Option.some.inj hf).symm
        exact z_ret d_law_338 rfl
    rw [if_neg c127] at hf
    by_cases c144 : ((hpI h a9 y3.toNatClampNeg) &&& (31 : Int32)) = (7 : Int32)
    · rw [if_pos c144] at hf
      refine z_tabIn (off := 307) (tgt := 339) d_law_32 (by rw [c144]; decide) (by rw [c144]; decide) (by rw [c144]; rfl) (by decide) ?_
      refine z_aload_n 1 d_law_339 rfl rfl ?_
      refine z_aload_n 0 d_law_340 rfl rfl ?_
      refine z_iload_n 3 d_law_341 rfl rfl ?_
      refine z_iconst (v := (1 : Int32)) d_law_342 rfl ?_
      refine z_iadd d_law_343 ?_
      obtain ⟨g145, hf⟩ := gd_some hf
      refine z_iald d_law_344 e10 (isA_eq g11).1 (isA_eq g11).2 (inb_vp g145) ?_
      obtain ⟨a146, e147, hf⟩ := dr_some hf
      obtain ⟨g148, hf⟩ := gd_some hf
      obtain ⟨v151, h149, ec150, hf⟩ := cl_some hf
      refine z_callVx e147 (c_X_pin ec150) d_law_345 cw_X_pin lk_Law_47 im_X_pin se_X_pin (kc_K (isK_eq g148) kc_0) ⟨by decide, by decide⟩ (Nat.le_of_ble_eq_true rfl) rfl ?_
      refine z_aload_n 2 d_law_348 rfl rfl ?_
      refine z_aload_n 0 d_law_349 rfl rfl ?_
      refine z_iload_n 3 d_law_350 rfl rfl ?_
      refine z_iconst (v := (1 : Int32)) d_law_351 rfl ?_
      refine z_iadd d_law_352 ?_
      obtain ⟨g152, hf⟩ := gd_some hf
      obtain ⟨g153, hf⟩ := gd_some hf
      refine z_iald d_law_353 e10 (isA_eq g152).1 (isA_eq g152).2 (inb_vp g153) ?_
      obtain ⟨a154, e155, hf⟩ := dr_some hf
      obtain ⟨g156, hf⟩ := gd_some hf
      obtain ⟨v159, h157, ec158, hf⟩ := cl_some hf
      refine z_callVx e155 (c_M_pin ec158) d_law_354 cw_M_pin lk_Law_50 im_M_pin se_M_pin (kc_K (isK_eq g156) kc_8) ⟨by decide, by decide⟩ (Nat.le_of_ble_eq_true rfl) rfl ?_
      refine z_icmp_eq (tgt := 589) d_law_357 (by decide) (fun c160 => ?_) (fun c160 => ?_)
      · rw [if_pos c160] at hf
        refine z_iinc (ls2 := [(3, vi (y3 + (4 : Int32))), (0, vr y0), (1, vr y1), (2, vr y2)]) 3 d_law_589 rfl rfl (by decide) rfl ?_
        refine z_goto (tgt := 18) d_law_592 (by decide) ?_
        refine z_ls [1, 2, 3, 0] rfl ?_
        exact kc ((y3 + (4 : Int32)), h157) (Option.some.inj hf).symm
      · rw [if_neg c160] at hf
        refine z_iconst (v := (0 : Int32)) d_law_360 rfl ?_
        obtain ⟨rfl, rfl⟩ := kr _ _ (Option.some.inj hf).symm
        exact z_ret d_law_361 rfl
    rw [if_neg c144] at hf
    by_cases c161 : ((hpI h a9 y3.toNatClampNeg) &&& (31 : Int32)) = (8 : Int32)
    · rw [if_pos c161] at hf
      refine z_tabIn (off := 330) (tgt := 362) d_law_32 (by rw [c161]; decide) (by rw [c161]; decide) (by rw [c161]; rfl) (by decide) ?_
      refine z_aload_n 1 d_law_362 rfl rfl ?_
      refine z_aload_n 0 d_law_363 rfl rfl ?_
      refine z_iload_n 3 d_law_364 rfl rfl ?_
      refine z_iconst (v := (1 : Int32)) d_law_365 rfl ?_
      refine z_iadd d_law_366 ?_
      obtain ⟨g162, hf⟩ := gd_some hf
      refine z_iald d_law_367 e10 (isA_eq g11).1 (isA_eq g11).2 (inb_vp g162) ?_
      obtain ⟨a163, e164, hf⟩ := dr_some hf
      obtain ⟨g165, hf⟩ := gd_some hf
      obtain ⟨v168, h166, ec167, hf⟩ := cl_some hf
      refine z_callVx e164 (c_X_unpin ec167) d_law_368 cw_X_unpin lk_Law_51 im_X_unpin se_X_unpin (kc_K (isK_eq g165) kc_0) ⟨by decide, by decide⟩ (Nat.le_of_ble_eq_true rfl) rfl ?_
      refine z_aload_n 2 d_law_371 rfl rfl ?_
      refine z_aload_n 0 d_law_372 rfl rfl ?_
      refine z_iload_n 3 d_law_373 rfl rfl ?_
      refine z_iconst (v := (1 : Int32)) d_law_374 rfl ?_
      refine z_iadd d_law_375 ?_
      obtain ⟨g169, hf⟩ := gd_some hf
      obtain ⟨g170, hf⟩ := gd_some hf
      refine z_iald d_law_376 e10 (isA_eq g169).1 (isA_eq g169).2 (inb_vp g170) ?_
      obtain ⟨a171, e172, hf⟩ := dr_some hf
      obtain ⟨g173, hf⟩ := gd_some hf
      obtain ⟨v176, h174, ec175, hf⟩ := cl_some hf
      refine z_callVx e172 (c_M_unpin ec175) d_law_377 cw_M_unpin lk_Law_54 im_M_unpin se_M_unpin (kc_K (isK_eq g173) kc_8) ⟨by decide, by decide⟩ (Nat.le_of_ble_eq_true rfl) rfl ?_
      refine z_icmp_eq (tgt := 589) d_law_380 (by decide) (fun c177 => ?_) (fun c177 => ?_)
      · rw [if_pos c177] at hf
        refine z_iinc (ls2 := [(3, vi (y3 + (4 : Int32))), (0, vr y0), (1, vr y1), (2, vr y2)]) 3 d_law_589 rfl rfl (by decide) rfl ?_
        refine z_goto (tgt := 18) d_law_592 (by decide) ?_
        refine z_ls [1, 2, 3, 0] rfl ?_
        exact kc ((y3 + (4 : Int32)), h174) (Option.some.inj hf).symm
      · rw [if_neg c177] at hf
        refine z_iconst (v := (0 : Int32)) d_law_383 rfl ?_
        obtain ⟨rfl, rfl⟩ := kr _ _ (Option.some.inj hf).symm
        exact z_ret d_law_384 rfl
    rw [if_neg c161] at hf
    by_cases c178 : ((hpI h a9 y3.toNatClampNeg) &&& (31 : Int32)) = (9 : Int32)
    · rw [if_pos c178] at hf
      refine z_tabIn (off := 353) (tgt := 385) d_law_32 (by rw [c178]; decide) (by rw [c178]; decide) (by rw [c178]; rfl) (by decide) ?_
      refine z_aload_n 1 d_law_385 rfl rfl ?_
      refine z_aload_n 0 d_law_386 rfl rfl ?_
      refine z_iload_n 3 d_law_387 rfl rfl ?_
      refine z_iconst (v := (1 : Int32)) d_law_388 rfl ?_
      refine z_iadd d_law_389 ?_
      obtain ⟨g179, hf⟩ := gd_some hf
      refine z_iald d_law_390 e10 (isA_eq g11).1 (isA_eq g11).2 (inb_vp g179) ?_
      obtain ⟨a180, e181, hf⟩ := dr_some hf
      obtain ⟨g182, hf⟩ := gd_some hf
      obtain ⟨v185, h183, ec184, hf⟩ := cl_some hf
      refine z_callVx e181 (c_X_hold ec184) d_law_391 cw_X_hold lk_Law_55 im_X_hold se_X_hold (kc_K (isK_eq g182) kc_0) ⟨by decide, by decide⟩ (Nat.le_of_ble_eq_true rfl) rfl ?_
      refine z_aload_n 2 d_law_394 rfl rfl ?_
      refine z_aload_n 0 d_law_395 rfl rfl ?_
      refine z_iload_n 3 d_law_396 rfl rfl ?_
      refine z_iconst (v := (1 : Int32)) d_law_397 rfl ?_
      refine z_iadd d_law_398 ?_
      obtain ⟨g186, hf⟩ := gd_some hf
      obtain ⟨g187, hf⟩ := gd_some hf
      refine z_iald d_law_399 e10 (isA_eq g186).1 (isA_eq g186).2 (inb_vp g187) ?_
      obtain ⟨a188, e189, hf⟩ := dr_some hf
      obtain ⟨g190, hf⟩ := gd_some hf
      obtain ⟨v193, h191, ec192, hf⟩ := cl_some hf
      refine z_callVx e189 (c_M_hold ec192) d_law_400 cw_M_hold lk_Law_58 im_M_hold se_M_hold (kc_K (isK_eq g190) kc_8) ⟨by decide, by decide⟩ (Nat.le_of_ble_eq_true rfl) rfl ?_
      refine z_icmp_eq (tgt := 589) d_law_403 (by decide) (fun c194 => ?_) (fun c194 => ?_)
      · rw [if_pos c194] at hf
        refine z_iinc (ls2 := [(3, vi (y3 + (4 : Int32))), (0, vr y0), (1, vr y1), (2, vr y2)]) 3 d_law_589 rfl rfl (by decide) rfl ?_
        refine z_goto (tgt := 18) d_law_592 (by decide) ?_
        refine z_ls [1, 2, 3, 0] rfl ?_
        exact kc ((y3 + (4 : Int32)), h191) (Option.some.inj hf).symm
      · rw [if_neg c194] at hf
        refine z_iconst (v := (0 : Int32)) d_law_406 rfl ?_
        obtain ⟨rfl, rfl⟩ := kr _ _ (Option.some.inj hf).symm
        exact z_ret d_law_407 rfl
    rw [if_neg c178] at hf
    by_cases c195 : ((hpI h a9 y3.toNatClampNeg) &&& (31 : Int32)) = (10 : Int32)
    · rw [if_pos c195] at hf
      refine z_tabIn (off := 376) (tgt := 408) d_law_32 (by rw [c195]; decide) (by rw [c195]; decide) (by rw [c195]; rfl) (by decide) ?_
      refine z_aload_n 1 d_law_408 rfl rfl ?_
      obtain ⟨a196, e197, hf⟩ := dr_some hf
      obtain ⟨g198, hf⟩ := gd_some hf
      obtain ⟨v201, h199, ec200, hf⟩ := cl_some hf
      refine z_callVx e197 (c_X_sync ec200) d_law_409 cw_X_sync lk_Law_59 im_X_sync se_X_sync (kc_K (isK_eq g198) kc_0) ⟨by decide, by decide⟩ (Nat.le_of_ble_eq_true rfl) rfl ?_
      refine z_aload_n 2 d_law_412 rfl rfl ?_
      obtain ⟨a202, e203, hf⟩ := dr_some hf
      obtain ⟨g204, hf⟩ := gd_some hf
      obtain ⟨v207, h205, ec206, hf⟩ := cl_some hf
      refine z_callVx e203 (c_M_sync ec206) d_law_413 cw_M_sync lk_Law_62 im_M_sync se_M_sync (kc_K (isK_eq g204) kc_8) ⟨by decide, by decide⟩ (Nat.le_of_ble_eq_true rfl) rfl ?_
      refine z_icmp_eq (tgt := 589) d_law_416 (by decide) (fun c208 => ?_) (fun c208 => ?_)
      · rw [if_pos c208] at hf
        refine z_iinc (ls2 := [(3, vi (y3 + (4 : Int32))), (0, vr y0), (1, vr y1), (2, vr y2)]) 3 d_law_589 rfl rfl (by decide) rfl ?_
        refine z_goto (tgt := 18) d_law_592 (by decide) ?_
        refine z_ls [1, 2, 3, 0] rfl ?_
        exact kc ((y3 + (4 : Int32)), h205) (Option.some.inj hf).symm
      · rw [if_neg c208] at hf
        refine z_iconst (v := (0 : Int32)) d_law_419 rfl ?_
        obtain ⟨rfl, rfl⟩ := kr _ _ (Option.some.inj hf).symm
        exact z_ret d_law_420 rfl
    rw [if_neg c195] at hf
    by_cases c209 : ((hpI h a9 y3.toNatClampNeg) &&& (31 : Int32)) = (11 : Int32)
    · rw [if_pos c209] at hf
      refine z_tabIn (off := 389) (tgt := 421) d_law_32 (by rw [c209]; decide) (by rw [c209]; decide) (by rw [c209]; rfl) (by decide) ?_
      refine z_aload_n 1 d_law_421 rfl rfl ?_
      refine z_aload_n 0 d_law_422 rfl rfl ?_
      refine z_iload_n 3 d_law_423 rfl rfl ?_
      refine z_iconst (v := (1 : Int32)) d_law_424 rfl ?_
      refine z_iadd d_law_425 ?_
      obtain ⟨g210, hf⟩ := gd_some hf
      refine z_iald d_law_426 e10 (isA_eq g11).1 (isA_eq g11).2 (inb_vp g210) ?_
      obtain ⟨a211, e212, hf⟩ := dr_some hf
      obtain ⟨g213, hf⟩ := gd_some hf
      obtain ⟨v216, h214, ec215, hf⟩ := cl_some hf
      refine z_callVx e212 (c_X_compact ec215) d_law_427 cw_X_compact lk_Law_63 im_X_compact se_X_compact (kc_K (isK_eq g213) kc_0) ⟨by decide, by decide⟩ (Nat.le_of_ble_eq_true rfl) rfl ?_
      refine z_aload_n 2 d_law_430 rfl rfl ?_
      refine z_aload_n 0 d_law_431 rfl rfl ?_
      refine z_iload_n 3 d_law_432 rfl rfl ?_
      refine z_iconst (v := (1 : Int32)) d_law_433 rfl ?_
      refine z_iadd d_law_434 ?_
      obtain ⟨g217, hf⟩ := gd_some hf
      obtain ⟨g218, hf⟩ := gd_some hf
      refine z_iald d_law_435 e10 (isA_eq g217).1 (isA_eq g217).2 (inb_vp g218) ?_
      obtain ⟨a219, e220, hf⟩ := dr_some hf
      obtain ⟨g221, hf⟩ := gd_some hf
      obtain ⟨v224, h222, ec223, hf⟩ := cl_some hf
      refine z_callVx e220 (c_M_compact ec223) d_law_436 cw_M_compact lk_Law_66 im_M_compact se_M_compact (kc_K (isK_eq g221) kc_8) ⟨by decide, by decide⟩ (Nat.le_of_ble_eq_true rfl) rfl ?_
      refine z_icmp_eq (tgt := 589) d_law_439 (by decide) (fun c225 => ?_) (fun c225 => ?_)
      · rw [if_pos c225] at hf
        refine z_iinc (ls2 := [(3, vi (y3 + (4 : Int32))), (0, vr y0), (1, vr y1), (2, vr y2)]) 3 d_law_589 rfl rfl (by decide) rfl ?_
        refine z_goto (tgt := 18) d_law_592 (by decide) ?_
        refine z_ls [1, 2, 3, 0] rfl ?_
        exact kc ((y3 + (4 : Int32)), h222) (Option.some.inj hf).symm
      · rw [if_neg c225] at hf
        refine z_iconst (v := (0 : Int32)) d_law_442 rfl ?_
        obtain ⟨rfl, rfl⟩ := kr _ _ (Option.some.inj hf).symm
        exact z_ret d_law_443 rfl
    rw [if_neg c209] at hf
    by_cases c226 : ((hpI h a9 y3.toNatClampNeg) &&& (31 : Int32)) = (12 : Int32)
    · rw [if_pos c226] at hf
      refine z_tabIn (off := 412) (tgt := 444) d_law_32 (by rw [c226]; decide) (by rw [c226]; decide) (by rw [c226]; rfl) (by decide) ?_
      refine z_aload_n 1 d_law_444 rfl rfl ?_
      refine z_aload_n 0 d_law_445 rfl rfl ?_
      refine z_iload_n 3 d_law_446 rfl rfl ?_
      refine z_iconst (v := (1 : Int32)) d_law_447 rfl ?_
      refine z_iadd d_law_448 ?_
      obtain ⟨g227, hf⟩ := gd_some hf
      refine z_iald d_law_449 e10 (isA_eq g11).1 (isA_eq g11).2 (inb_vp g227) ?_
      refine z_aload_n 0 d_law_450 rfl rfl ?_
      refine z_iload_n 3 d_law_451 rfl rfl ?_
      refine z_iconst (v := (2 : Int32)) d_law_452 rfl ?_
      refine z_iadd d_law_453 ?_
      obtain ⟨g228, hf⟩ := gd_some hf
      refine z_iald d_law_454 e10 (isA_eq g11).1 (isA_eq g11).2 (inb_vp g228) ?_
      obtain ⟨a229, e230, hf⟩ := dr_some hf
      obtain ⟨g231, hf⟩ := gd_some hf
      obtain ⟨v234, h232, ec233, hf⟩ := cl_some hf
      refine z_callVx e230 (c_X_crash ec233) d_law_455 cw_X_crash lk_Law_67 im_X_crash se_X_crash (kc_K (isK_eq g231) kc_0) ⟨by decide, by decide⟩ (Nat.le_of_ble_eq_true rfl) rfl ?_
      refine z_aload_n 2 d_law_458 rfl rfl ?_
      refine z_aload_n 0 d_law_459 rfl rfl ?_
      refine z_iload_n 3 d_law_460 rfl rfl ?_
      refine z_iconst (v := (1 : Int32)) d_law_461 rfl ?_
      refine z_iadd d_law_462 ?_
      obtain ⟨g235, hf⟩ := gd_some hf
      obtain ⟨g236, hf⟩ := gd_some hf
      refine z_iald d_law_463 e10 (isA_eq g235).1 (isA_eq g235).2 (inb_vp g236) ?_
      refine z_aload_n 0 d_law_464 rfl rfl ?_
      refine z_iload_n 3 d_law_465 rfl rfl ?_
      refine z_iconst (v := (2 : Int32)) d_law_466 rfl ?_
      refine z_iadd d_law_467 ?_
      obtain ⟨g237, hf⟩ := gd_some hf
      refine z_iald d_law_468 e10 (isA_eq g235).1 (isA_eq g235).2 (inb_vp g237) ?_
      obtain ⟨a238, e239, hf⟩ := dr_some hf
      obtain ⟨g240, hf⟩ := gd_some hf
      obtain ⟨v243, h241, ec242, hf⟩ := cl_some hf
      refine z_callVx e239 (c_M_crash ec242) d_law_469 cw_M_crash lk_Law_70 im_M_crash se_M_crash (kc_K (isK_eq g240) kc_8) ⟨by decide, by decide⟩ (Nat.le_of_ble_eq_true rfl) rfl ?_
      refine z_icmp_eq (tgt := 589) d_law_472 (by decide) (fun c244 => ?_) (fun c244 => ?_)
      · rw [if_pos c244] at hf
        refine z_iinc (ls2 := [(3, vi (y3 + (4 : Int32))), (0, vr y0), (1, vr y1), (2, vr y2)]) 3 d_law_589 rfl rfl (by decide) rfl ?_
        refine z_goto (tgt := 18) d_law_592 (by decide) ?_
        refine z_ls [1, 2, 3, 0] rfl ?_
        exact kc ((y3 + (4 : Int32)), h241) (Option.some.inj hf).symm
      · rw [if_neg c244] at hf
        refine z_iconst (v := (0 : Int32)) d_law_475 rfl ?_
        obtain ⟨rfl, rfl⟩ := kr _ _ (Option.some.inj hf).symm
        exact z_ret d_law_476 rfl
    rw [if_neg c226] at hf
    by_cases c245 : ((hpI h a9 y3.toNatClampNeg) &&& (31 : Int32)) = (13 : Int32)
    · rw [if_pos c245] at hf
      refine z_tabIn (off := 445) (tgt := 477) d_law_32 (by rw [c245]; decide) (by rw [c245]; decide) (by rw [c245]; rfl) (by decide) ?_
      refine z_aload_n 1 d_law_477 rfl rfl ?_
      refine z_aload_n 0 d_law_478 rfl rfl ?_
      refine z_iload_n 3 d_law_479 rfl rfl ?_
      refine z_iconst (v := (1 : Int32)) d_law_480 rfl ?_
      refine z_iadd d_law_481 ?_
      obtain ⟨g246, hf⟩ := gd_some hf
      refine z_iald d_law_482 e10 (isA_eq g11).1 (isA_eq g11).2 (inb_vp g246) ?_
      refine z_aload_n 0 d_law_483 rfl rfl ?_
      refine z_iload_n 3 d_law_484 rfl rfl ?_
      refine z_iconst (v := (2 : Int32)) d_law_485 rfl ?_
      refine z_iadd d_law_486 ?_
      obtain ⟨g247, hf⟩ := gd_some hf
      refine z_iald d_law_487 e10 (isA_eq g11).1 (isA_eq g11).2 (inb_vp g247) ?_
      obtain ⟨a248, e249, hf⟩ := dr_some hf
      obtain ⟨g250, hf⟩ := gd_some hf
      obtain ⟨v253, h251, ec252, hf⟩ := cl_some hf
      refine z_callVx e249 (c_X_chunk ec252) d_law_488 cw_X_chunk lk_Law_71 im_X_chunk se_X_chunk (kc_K (isK_eq g250) kc_0) ⟨by decide, by decide⟩ (Nat.le_of_ble_eq_true rfl) rfl ?_
      refine z_aload_n 2 d_law_491 rfl rfl ?_
      refine z_aload_n 0 d_law_492 rfl rfl ?_
      refine z_iload_n 3 d_law_493 rfl rfl ?_
      refine z_iconst (v := (1 : Int32)) d_law_494 rfl ?_
      refine z_iadd d_law_495 ?_
      obtain ⟨g254, hf⟩ := gd_some hf
      obtain ⟨g255, hf⟩ := gd_some hf
      refine z_iald d_law_496 e10 (isA_eq g254).1 (isA_eq g254).2 (inb_vp g255) ?_
      refine z_aload_n 0 d_law_497 rfl rfl ?_
      refine z_iload_n 3 d_law_498 rfl rfl ?_
      refine z_iconst (v := (2 : Int32)) d_law_499 rfl ?_
      refine z_iadd d_law_500 ?_
      obtain ⟨g256, hf⟩ := gd_some hf
      refine z_iald d_law_501 e10 (isA_eq g254).1 (isA_eq g254).2 (inb_vp g256) ?_
      obtain ⟨a257, e258, hf⟩ := dr_some hf
      obtain ⟨g259, hf⟩ := gd_some hf
      obtain ⟨v262, h260, ec261, hf⟩ := cl_some hf
      refine z_callVx e258 (c_M_chunk ec261) d_law_502 cw_M_chunk lk_Law_74 im_M_chunk se_M_chunk (kc_K (isK_eq g259) kc_8) ⟨by decide, by decide⟩ (Nat.le_of_ble_eq_true rfl) rfl ?_
      refine z_icmp_eq (tgt := 589) d_law_505 (by decide) (fun c263 => ?_) (fun c263 => ?_)
      · rw [if_pos c263] at hf
        refine z_iinc (ls2 := [(3, vi (y3 + (4 : Int32))), (0, vr y0), (1, vr y1), (2, vr y2)]) 3 d_law_589 rfl rfl (by decide) rfl ?_
        refine z_goto (tgt := 18) d_law_592 (by decide) ?_
        refine z_ls [1, 2, 3, 0] rfl ?_
        exact kc ((y3 + (4 : Int32)), h260) (Option.some.inj hf).symm
      · rw [if_neg c263] at hf
        refine z_iconst (v := (0 : Int32)) d_law_508 rfl ?_
        obtain ⟨rfl, rfl⟩ := kr _ _ (Option.some.inj hf).symm
        exact z_ret d_law_509 rfl
    rw [if_neg c245] at hf
    by_cases c264 : ((hpI h a9 y3.toNatClampNeg) &&& (31 : Int32)) = (14 : Int32)
    · rw [if_pos c264] at hf
      refine z_tabIn (off := 478) (tgt := 510) d_law_32 (by rw [c264]; decide) (by rw [c264]; decide) (by rw [c264]; rfl) (by decide) ?_
      refine z_aload_n 1 d_law_510 rfl rfl ?_
      refine z_aload_n 0 d_law_511 rfl rfl ?_
      refine z_iload_n 3 d_law_512 rfl rfl ?_
      refine z_iconst (v := (1 : Int32)) d_law_513 rfl ?_
      refine z_iadd d_law_514 ?_
      obtain ⟨g265, hf⟩ := gd_some hf
      refine z_iald d_law_515 e10 (isA_eq g11).1 (isA_eq g11).2 (inb_vp g265) ?_
      refine z_aload_n 0 d_law_516 rfl rfl ?_
      refine z_iload_n 3 d_law_517 rfl rfl ?_
      refine z_iconst (v := (2 : Int32)) d_law_518 rfl ?_
      refine z_iadd d_law_519 ?_
      obtain ⟨g266, hf⟩ := gd_some hf
      refine z_iald d_law_520 e10 (isA_eq g11).1 (isA_eq g11).2 (inb_vp g266) ?_
      obtain ⟨a267, e268, hf⟩ := dr_some hf
      obtain ⟨g269, hf⟩ := gd_some hf
      obtain ⟨v272, h270, ec271, hf⟩ := cl_some hf
      refine z_callVx e268 (c_X_block ec271) d_law_521 cw_X_block lk_Law_75 im_X_block se_X_block (kc_K (isK_eq g269) kc_0) ⟨by decide, by decide⟩ (Nat.le_of_ble_eq_true rfl) rfl ?_
      refine z_aload_n 2 d_law_524 rfl rfl ?_
      refine z_aload_n 0 d_law_525 rfl rfl ?_
      refine z_iload_n 3 d_law_526 rfl rfl ?_
      refine z_iconst (v := (1 : Int32)) d_law_527 rfl ?_
      refine z_iadd d_law_528 ?_
      obtain ⟨g273, hf⟩ := gd_some hf
      obtain ⟨g274, hf⟩ := gd_some hf
      refine z_iald d_law_529 e10 (isA_eq g273).1 (isA_eq g273).2 (inb_vp g274) ?_
      refine z_aload_n 0 d_law_530 rfl rfl ?_
      refine z_iload_n 3 d_law_531 rfl rfl ?_
      refine z_iconst (v := (2 : Int32)) d_law_532 rfl ?_
      refine z_iadd d_law_533 ?_
      obtain ⟨g275, hf⟩ := gd_some hf
      refine z_iald d_law_534 e10 (isA_eq g273).1 (isA_eq g273).2 (inb_vp g275) ?_
      obtain ⟨a276, e277, hf⟩ := dr_some hf
      obtain ⟨g278, hf⟩ := gd_some hf
      obtain ⟨v281, h279, ec280, hf⟩ := cl_some hf
      refine z_callVx e277 (c_M_block ec280) d_law_535 cw_M_block lk_Law_78 im_M_block se_M_block (kc_K (isK_eq g278) kc_8) ⟨by decide, by decide⟩ (Nat.le_of_ble_eq_true rfl) rfl ?_
      refine z_icmp_eq (tgt := 589) d_law_538 (by decide) (fun c282 => ?_) (fun c282 => ?_)
      · rw [if_pos c282] at hf
        refine z_iinc (ls2 := [(3, vi (y3 + (4 : Int32))), (0, vr y0), (1, vr y1), (2, vr y2)]) 3 d_law_589 rfl rfl (by decide) rfl ?_
        refine z_goto (tgt := 18) d_law_592 (by decide) ?_
        refine z_ls [1, 2, 3, 0] rfl ?_
        exact kc ((y3 + (4 : Int32)), h279) (Option.some.inj hf).symm
      · rw [if_neg c282] at hf
        refine z_iconst (v := (0 : Int32)) d_law_541 rfl ?_
        obtain ⟨rfl, rfl⟩ := kr _ _ (Option.some.inj hf).symm
        exact z_ret d_law_542 rfl
    rw [if_neg c264] at hf
    by_cases c283 : ((hpI h a9 y3.toNatClampNeg) &&& (31 : Int32)) = (15 : Int32)
    · rw [if_pos c283] at hf
      refine z_tabIn (off := 511) (tgt := 543) d_law_32 (by rw [c283]; decide) (by rw [c283]; decide) (by rw [c283]; rfl) (by decide) ?_
      refine z_aload_n 1 d_law_543 rfl rfl ?_
      refine z_aload_n 0 d_law_544 rfl rfl ?_
      refine z_iload_n 3 d_law_545 rfl rfl ?_
      refine z_iconst (v := (1 : Int32)) d_law_546 rfl ?_
      refine z_iadd d_law_547 ?_
      obtain ⟨g284, hf⟩ := gd_some hf
      refine z_iald d_law_548 e10 (isA_eq g11).1 (isA_eq g11).2 (inb_vp g284) ?_
      obtain ⟨a285, e286, hf⟩ := dr_some hf
      obtain ⟨g287, hf⟩ := gd_some hf
      obtain ⟨v290, h288, ec289, hf⟩ := cl_some hf
      refine z_callVx e286 (c_X_kept ec289) d_law_549 cw_X_kept lk_Law_79 im_X_kept se_X_kept (kc_K (isK_eq g287) kc_0) ⟨by decide, by decide⟩ (Nat.le_of_ble_eq_true rfl) rfl ?_
      refine z_aload_n 2 d_law_552 rfl rfl ?_
      refine z_aload_n 0 d_law_553 rfl rfl ?_
      refine z_iload_n 3 d_law_554 rfl rfl ?_
      refine z_iconst (v := (1 : Int32)) d_law_555 rfl ?_
      refine z_iadd d_law_556 ?_
      obtain ⟨g291, hf⟩ := gd_some hf
      obtain ⟨g292, hf⟩ := gd_some hf
      refine z_iald d_law_557 e10 (isA_eq g291).1 (isA_eq g291).2 (inb_vp g292) ?_
      obtain ⟨a293, e294, hf⟩ := dr_some hf
      obtain ⟨g295, hf⟩ := gd_some hf
      obtain ⟨v298, h296, ec297, hf⟩ := cl_some hf
      refine z_callVx e294 (c_M_kept ec297) d_law_558 cw_M_kept lk_Law_82 im_M_kept se_M_kept (kc_K (isK_eq g295) kc_8) ⟨by decide, by decide⟩ (Nat.le_of_ble_eq_true rfl) rfl ?_
      refine z_icmp_eq (tgt := 589) d_law_561 (by decide) (fun c299 => ?_) (fun c299 => ?_)
      · rw [if_pos c299] at hf
        refine z_iinc (ls2 := [(3, vi (y3 + (4 : Int32))), (0, vr y0), (1, vr y1), (2, vr y2)]) 3 d_law_589 rfl rfl (by decide) rfl ?_
        refine z_goto (tgt := 18) d_law_592 (by decide) ?_
        refine z_ls [1, 2, 3, 0] rfl ?_
        exact kc ((y3 + (4 : Int32)), h296) (Option.some.inj hf).symm
      · rw [if_neg c299] at hf
        refine z_iconst (v := (0 : Int32)) d_law_564 rfl ?_
        obtain ⟨rfl, rfl⟩ := kr _ _ (Option.some.inj hf).symm
        exact z_ret d_law_565 rfl
    rw [if_neg c283] at hf
    by_cases c300 : ((hpI h a9 y3.toNatClampNeg) &&& (31 : Int32)) = (16 : Int32)
    · rw [if_pos c300] at hf
      refine z_tabIn (off := 534) (tgt := 566) d_law_32 (by rw [c300]; decide) (by rw [c300]; decide) (by rw [c300]; rfl) (by decide) ?_
      refine z_aload_n 1 d_law_566 rfl rfl ?_
      refine z_aload_n 0 d_law_567 rfl rfl ?_
      refine z_iload_n 3 d_law_568 rfl rfl ?_
      refine z_iconst (v := (1 : Int32)) d_law_569 rfl ?_
      refine z_iadd d_law_570 ?_
      obtain ⟨g301, hf⟩ := gd_some hf
      refine z_iald d_law_571 e10 (isA_eq g11).1 (isA_eq g11).2 (inb_vp g301) ?_
      obtain ⟨a302, e303, hf⟩ := dr_some hf
      obtain ⟨g304, hf⟩ := gd_some hf
      obtain ⟨v307, h305, ec306, hf⟩ := cl_some hf
      refine z_callVx e303 (c_X_count ec306) d_law_572 cw_X_count lk_Law_83 im_X_count se_X_count (kc_K (isK_eq g304) kc_0) ⟨by decide, by decide⟩ (Nat.le_of_ble_eq_true rfl) rfl ?_
      refine z_aload_n 2 d_law_575 rfl rfl ?_
      refine z_aload_n 0 d_law_576 rfl rfl ?_
      refine z_iload_n 3 d_law_577 rfl rfl ?_
      refine z_iconst (v := (1 : Int32)) d_law_578 rfl ?_
      refine z_iadd d_law_579 ?_
      obtain ⟨g308, hf⟩ := gd_some hf
      obtain ⟨g309, hf⟩ := gd_some hf
      refine z_iald d_law_580 e10 (isA_eq g308).1 (isA_eq g308).2 (inb_vp g309) ?_
      obtain ⟨a310, e311, hf⟩ := dr_some hf
      obtain ⟨g312, hf⟩ := gd_some hf
      obtain ⟨v315, h313, ec314, hf⟩ := cl_some hf
      refine z_callVx e311 (c_M_count ec314) d_law_581 cw_M_count lk_Law_86 im_M_count se_M_count (kc_K (isK_eq g312) kc_8) ⟨by decide, by decide⟩ (Nat.le_of_ble_eq_true rfl) rfl ?_
      refine z_icmp_eq (tgt := 589) d_law_584 (by decide) (fun c316 => ?_) (fun c316 => ?_)
      · rw [if_pos c316] at hf
        refine z_iinc (ls2 := [(3, vi (y3 + (4 : Int32))), (0, vr y0), (1, vr y1), (2, vr y2)]) 3 d_law_589 rfl rfl (by decide) rfl ?_
        refine z_goto (tgt := 18) d_law_592 (by decide) ?_
        refine z_ls [1, 2, 3, 0] rfl ?_
        exact kc ((y3 + (4 : Int32)), h313) (Option.some.inj hf).symm
      · rw [if_neg c316] at hf
        refine z_iconst (v := (0 : Int32)) d_law_587 rfl ?_
        obtain ⟨rfl, rfl⟩ := kr _ _ (Option.some.inj hf).symm
        exact z_ret d_law_588 rfl
    rw [if_neg c300] at hf
    refine z_tabOut (tgt := 589) d_law_32 (ts_out 17 (by decide) (fun j hj => ?_)) (by decide) ?_
    · have hj2 : j = 0 ∨ j = 1 ∨ j = 2 ∨ j = 3 ∨ j = 4 ∨ j = 5 ∨ j = 6 ∨ j = 7 ∨ j = 8 ∨ j = 9 ∨ j = 10 ∨ j = 11 ∨ j = 12 ∨ j = 13 ∨ j = 14 ∨ j = 15 ∨ j = 16 := by omega
      rcases hj2 with e | e | e | e | e | e | e | e | e | e | e | e | e | e | e | e | e
      · subst e; exact c14
      · subst e; exact c35
      · subst e; exact c54
      · subst e; exact c73
      · subst e; exact c94
      · subst e; exact c113
      · subst e; exact c127
      · subst e; exact c144
      · subst e; exact c161
      · subst e; exact c178
      · subst e; exact c195
      · subst e; exact c209
      · subst e; exact c226
      · subst e; exact c245
      · subst e; exact c264
      · subst e; exact c283
      · subst e; exact c300
    refine z_iinc (ls2 := [(3, vi (y3 + (4 : Int32))), (0, vr y0), (1, vr y1), (2, vr y2)]) 3 d_law_589 rfl rfl (by decide) rfl ?_
    refine z_goto (tgt := 18) d_law_592 (by decide) ?_
    refine z_ls [1, 2, 3, 0] rfl ?_
    exact kc ((y3 + (4 : Int32)), h) (Option.some.inj hf).symm
def l_law_18 (E : Nat × Nat) (y0 : Option Nat) (y1 : Option Nat) (y2 : Option Nat) (s : Int32 × Hp) : Option ((Hp) ⊕ (Int32 × Hp)) := lp (fun s => b_law_18 E y0 y1 y2 s.1 s.2) FU s
theorem zzl_law_18 {l : Launch} {C : Ct} {mi : Nat} {y0 : Option Nat} {y1 : Option Nat} {y2 : Option Nat} {h' : Hp} {v : Int32} : ∀ (n : Nat) (s : Int32 × Hp) (q : ((Hp) ⊕ (Int32 × Hp))), lp (fun s : Int32 × Hp => b_law_18 (cE C, mi) y0 y1 y2 s.1 s.2) n s = some q → (∀ x, q = .inl x → Z l C mi m_law 9 595 [] [] x (some (vi v)) h') → (∀ rv rh, q = .inr (rv, rh) → v = rv ∧ h' = rh) → Z l C mi m_law 9 18 [(0, vr y0), (1, vr y1), (2, vr y2), (3, vi s.1)] [] s.2 (some (vi v)) h' := by
  intro n
  induction n with
  | zero => intro s q hl; cases hl
  | succ n ih =>
    intro s q hl ke kr
    rcases lp_some hl with ⟨s2, hb, hl2⟩ | hb
    · exact zb_law_18 hb (fun s3 e3 => by cases e3; refine z_ls [0, 1, 2, 3] rfl ?_; exact ih s2 q hl2 ke kr) (fun x e3 => by cases e3) (fun rv rh e3 => by cases e3)
    · exact zb_law_18 hb (fun s3 e3 => by cases e3) (fun x e3 => ke x (Sum.inr.inj e3)) (fun rv rh e3 => kr rv rh (Sum.inr.inj e3))
theorem zl_law_18 {l : Launch} {C : Ct} {mi : Nat} {y0 : Option Nat} {y1 : Option Nat} {y2 : Option Nat} {h' : Hp} {v : Int32} {s : Int32 × Hp} {q : ((Hp) ⊕ (Int32 × Hp))} (hl : l_law_18 (cE C, mi) y0 y1 y2 s = some q) (ke : ∀ x, q = .inl x → Z l C mi m_law 9 595 [] [] x (some (vi v)) h') (kr : ∀ rv rh, q = .inr (rv, rh) → v = rv ∧ h' = rh) : Z l C mi m_law 9 18 [(0, vr y0), (1, vr y1), (2, vr y2), (3, vi s.1)] [] s.2 (some (vi v)) h' := zzl_law_18 FU s q hl ke kr
def f_law (E : Nat × Nat) (a0 : Nat) (h : Hp) : Option (Int32 × Hp) :=
  nm (nw h 0 0 8) fun h1 => cv (f_X_init E (hpN h) h1) fun h3 => nm (nw h3 8 0 34) fun h5 => cv (f_M_init (hpN h3) h5) fun h7 => lk (l_law_18 E (some a0) (some (hpN h)) (some (hpN h3)) ((0 : Int32), h7)) (fun x317 => some ((1 : Int32), x317)) some
set_option maxRecDepth 100000 in
set_option maxHeartbeats 4000000 in
theorem zf_law {l : Launch} {C : Ct} {mi : Nat} {a0 : Nat} {h h' : Hp} {v : Int32} (hf : f_law (cE C, mi) a0 h = some (v, h')) : Z l C mi m_law 9 0 [(0, vr (some a0))] [] h (some (vi v)) h' := by
  unfold f_law at hf
  obtain ⟨h1, eh2, hf⟩ := nm_some hf
  refine z_new (κ := 0) d_law_0 rfl (by decide +kernel) ?_
  refine z_hp eh2 ?_
  refine z_dup d_law_3 rfl ?_
  obtain ⟨h3, ec4, hf⟩ := cv_some hf
  refine z_callI (c_X_init ec4) d_law_4 rfl cw_X_init lk_Law_9 im_X_init rfl ⟨by decide, by decide⟩ (Nat.le_of_ble_eq_true rfl) rfl ?_
  refine z_astore_n (ls2 := [(1, vr (some (hpN h))), (0, vr (some a0))]) d_law_7 rfl (by decide) rfl ?_
  obtain ⟨h5, eh6, hf⟩ := nm_some hf
  refine z_new (κ := 8) d_law_8 rfl (by decide +kernel) ?_
  refine z_hp eh6 ?_
  refine z_dup d_law_11 rfl ?_
  obtain ⟨h7, ec8, hf⟩ := cv_some hf
  refine z_callI (c_M_init ec8) d_law_12 rfl cw_M_init lk_Law_12 im_M_init rfl ⟨by decide, by decide⟩ (Nat.le_of_ble_eq_true rfl) rfl ?_
  refine z_astore_n (ls2 := [(2, vr (some (hpN h3))), (1, vr (some (hpN h))), (0, vr (some a0))]) d_law_15 rfl (by decide) rfl ?_
  refine z_iconst (v := (0 : Int32)) d_law_16 rfl ?_
  refine z_istore_n (ls2 := [(3, vi (0 : Int32)), (2, vr (some (hpN h3))), (1, vr (some (hpN h))), (0, vr (some a0))]) d_law_17 rfl (by decide) rfl ?_
  rcases lk_some hf with ⟨x317, el318, hf⟩ | ⟨x317r, el318, hf⟩
  · refine z_ls [3, 2, 1, 0] rfl ?_
    refine zl_law_18 el318 (fun x2 e2 => ?_) (fun rv rh e2 => by cases e2)
    cases e2
    refine z_iconst (v := (1 : Int32)) d_law_595 rfl ?_
    obtain ⟨rfl, rfl⟩ := Prod.mk.inj (Option.some.inj hf)
    exact z_ret d_law_596 rfl
  · refine z_ls [3, 2, 1, 0] rfl ?_
    refine zl_law_18 el318 (fun x2 e2 => by cases e2) (fun rv rh e2 => ?_)
    cases e2
    have e4 := Prod.mk.inj (Option.some.inj hf)
    exact ⟨e4.1.symm, e4.2.symm⟩
