theorem d_L_law_0 : decode code 0 = .ok (.new 7, 3) := by decide +kernel
theorem d_L_law_3 : decode code 3 = .ok (.dup, 1) := by decide +kernel
theorem d_L_law_4 : decode code 4 = .ok (.invokespecial 9, 3) := by decide +kernel
theorem d_L_law_7 : decode code 7 = .ok (.astore_n 1, 1) := by decide +kernel
theorem d_L_law_8 : decode code 8 = .ok (.new 10, 3) := by decide +kernel
theorem d_L_law_11 : decode code 11 = .ok (.dup, 1) := by decide +kernel
theorem d_L_law_12 : decode code 12 = .ok (.invokespecial 12, 3) := by decide +kernel
theorem d_L_law_15 : decode code 15 = .ok (.astore_n 2, 1) := by decide +kernel
theorem d_L_law_16 : decode code 16 = .ok (.iconst 0, 1) := by decide +kernel
theorem d_L_law_17 : decode code 17 = .ok (.istore_n 3, 1) := by decide +kernel
theorem d_L_law_18 : decode code 18 = .ok (.iload_n 3, 1) := by decide +kernel
theorem d_L_law_19 : decode code 19 = .ok (.aload_n 0, 1) := by decide +kernel
theorem d_L_law_20 : decode code 20 = .ok (.arraylength, 1) := by decide +kernel
theorem d_L_law_21 : decode code 21 = .ok (.iconst 5, 1) := by decide +kernel
theorem d_L_law_22 : decode code 22 = .ok (.isub, 1) := by decide +kernel
theorem d_L_law_23 : decode code 23 = .ok (.if_icmp .gt 540, 3) := by decide +kernel
theorem d_L_law_26 : decode code 26 = .ok (.aload_n 0, 1) := by decide +kernel
theorem d_L_law_27 : decode code 27 = .ok (.iload_n 3, 1) := by decide +kernel
theorem d_L_law_28 : decode code 28 = .ok (.iaload, 1) := by decide +kernel
theorem d_L_law_29 : decode code 29 = .ok (.bipush 31, 2) := by decide +kernel
theorem d_L_law_31 : decode code 31 = .ok (.iand, 1) := by decide +kernel
theorem d_L_law_32 : decode code 32 = .ok (.tableswitch 525 0 16 #[84, 127, 150, 173, 196, 229, 262, 295, 328, 381, 404, 417, 430, 443, 466, 489, 512], 84) := by decide +kernel
theorem d_L_law_116 : decode code 116 = .ok (.aload_n 1, 1) := by decide +kernel
theorem d_L_law_117 : decode code 117 = .ok (.aload_n 0, 1) := by decide +kernel
theorem d_L_law_118 : decode code 118 = .ok (.iload_n 3, 1) := by decide +kernel
theorem d_L_law_119 : decode code 119 = .ok (.iconst 1, 1) := by decide +kernel
theorem d_L_law_120 : decode code 120 = .ok (.iadd, 1) := by decide +kernel
theorem d_L_law_121 : decode code 121 = .ok (.iaload, 1) := by decide +kernel
theorem d_L_law_122 : decode code 122 = .ok (.aload_n 0, 1) := by decide +kernel
theorem d_L_law_123 : decode code 123 = .ok (.iload_n 3, 1) := by decide +kernel
theorem d_L_law_124 : decode code 124 = .ok (.iconst 2, 1) := by decide +kernel
theorem d_L_law_125 : decode code 125 = .ok (.iadd, 1) := by decide +kernel
theorem d_L_law_126 : decode code 126 = .ok (.iaload, 1) := by decide +kernel
theorem d_L_law_127 : decode code 127 = .ok (.aload_n 0, 1) := by decide +kernel
theorem d_L_law_128 : decode code 128 = .ok (.iload_n 3, 1) := by decide +kernel
theorem d_L_law_129 : decode code 129 = .ok (.iconst 3, 1) := by decide +kernel
theorem d_L_law_130 : decode code 130 = .ok (.iadd, 1) := by decide +kernel
theorem d_L_law_131 : decode code 131 = .ok (.iaload, 1) := by decide +kernel
theorem d_L_law_132 : decode code 132 = .ok (.invokevirtual 13, 3) := by decide +kernel
theorem d_L_law_135 : decode code 135 = .ok (.aload_n 2, 1) := by decide +kernel
theorem d_L_law_136 : decode code 136 = .ok (.aload_n 0, 1) := by decide +kernel
theorem d_L_law_137 : decode code 137 = .ok (.iload_n 3, 1) := by decide +kernel
theorem d_L_law_138 : decode code 138 = .ok (.iconst 1, 1) := by decide +kernel
theorem d_L_law_139 : decode code 139 = .ok (.iadd, 1) := by decide +kernel
theorem d_L_law_140 : decode code 140 = .ok (.iaload, 1) := by decide +kernel
theorem d_L_law_141 : decode code 141 = .ok (.aload_n 0, 1) := by decide +kernel
theorem d_L_law_142 : decode code 142 = .ok (.iload_n 3, 1) := by decide +kernel
theorem d_L_law_143 : decode code 143 = .ok (.iconst 2, 1) := by decide +kernel
theorem d_L_law_144 : decode code 144 = .ok (.iadd, 1) := by decide +kernel
theorem d_L_law_145 : decode code 145 = .ok (.iaload, 1) := by decide +kernel
theorem d_L_law_146 : decode code 146 = .ok (.aload_n 0, 1) := by decide +kernel
theorem d_L_law_147 : decode code 147 = .ok (.iload_n 3, 1) := by decide +kernel
theorem d_L_law_148 : decode code 148 = .ok (.iconst 3, 1) := by decide +kernel
theorem d_L_law_149 : decode code 149 = .ok (.iadd, 1) := by decide +kernel
theorem d_L_law_150 : decode code 150 = .ok (.iaload, 1) := by decide +kernel
theorem d_L_law_151 : decode code 151 = .ok (.invokevirtual 17, 3) := by decide +kernel
theorem d_L_law_154 : decode code 154 = .ok (.if_icmp .eq 403, 3) := by decide +kernel
theorem d_L_law_157 : decode code 157 = .ok (.iconst 0, 1) := by decide +kernel
theorem d_L_law_158 : decode code 158 = .ok (.ireturn, 1) := by decide +kernel
theorem d_L_law_159 : decode code 159 = .ok (.aload_n 1, 1) := by decide +kernel
theorem d_L_law_160 : decode code 160 = .ok (.aload_n 0, 1) := by decide +kernel
theorem d_L_law_161 : decode code 161 = .ok (.iload_n 3, 1) := by decide +kernel
theorem d_L_law_162 : decode code 162 = .ok (.iconst 1, 1) := by decide +kernel
theorem d_L_law_163 : decode code 163 = .ok (.iadd, 1) := by decide +kernel
theorem d_L_law_164 : decode code 164 = .ok (.iaload, 1) := by decide +kernel
theorem d_L_law_165 : decode code 165 = .ok (.invokevirtual 18, 3) := by decide +kernel
theorem d_L_law_168 : decode code 168 = .ok (.aload_n 2, 1) := by decide +kernel
theorem d_L_law_169 : decode code 169 = .ok (.aload_n 0, 1) := by decide +kernel
theorem d_L_law_170 : decode code 170 = .ok (.iload_n 3, 1) := by decide +kernel
theorem d_L_law_171 : decode code 171 = .ok (.iconst 1, 1) := by decide +kernel
theorem d_L_law_172 : decode code 172 = .ok (.iadd, 1) := by decide +kernel
theorem d_L_law_173 : decode code 173 = .ok (.iaload, 1) := by decide +kernel
theorem d_L_law_174 : decode code 174 = .ok (.invokevirtual 22, 3) := by decide +kernel
theorem d_L_law_177 : decode code 177 = .ok (.if_icmp .eq 380, 3) := by decide +kernel
theorem d_L_law_180 : decode code 180 = .ok (.iconst 0, 1) := by decide +kernel
theorem d_L_law_181 : decode code 181 = .ok (.ireturn, 1) := by decide +kernel
theorem d_L_law_182 : decode code 182 = .ok (.aload_n 1, 1) := by decide +kernel
theorem d_L_law_183 : decode code 183 = .ok (.aload_n 0, 1) := by decide +kernel
theorem d_L_law_184 : decode code 184 = .ok (.iload_n 3, 1) := by decide +kernel
theorem d_L_law_185 : decode code 185 = .ok (.iconst 1, 1) := by decide +kernel
theorem d_L_law_186 : decode code 186 = .ok (.iadd, 1) := by decide +kernel
theorem d_L_law_187 : decode code 187 = .ok (.iaload, 1) := by decide +kernel
theorem d_L_law_188 : decode code 188 = .ok (.invokevirtual 23, 3) := by decide +kernel
theorem d_L_law_191 : decode code 191 = .ok (.aload_n 2, 1) := by decide +kernel
theorem d_L_law_192 : decode code 192 = .ok (.aload_n 0, 1) := by decide +kernel
theorem d_L_law_193 : decode code 193 = .ok (.iload_n 3, 1) := by decide +kernel
theorem d_L_law_194 : decode code 194 = .ok (.iconst 1, 1) := by decide +kernel
theorem d_L_law_195 : decode code 195 = .ok (.iadd, 1) := by decide +kernel
theorem d_L_law_196 : decode code 196 = .ok (.iaload, 1) := by decide +kernel
theorem d_L_law_197 : decode code 197 = .ok (.invokevirtual 26, 3) := by decide +kernel
theorem d_L_law_200 : decode code 200 = .ok (.if_icmp .eq 357, 3) := by decide +kernel
theorem d_L_law_203 : decode code 203 = .ok (.iconst 0, 1) := by decide +kernel
theorem d_L_law_204 : decode code 204 = .ok (.ireturn, 1) := by decide +kernel
theorem d_L_law_205 : decode code 205 = .ok (.aload_n 1, 1) := by decide +kernel
theorem d_L_law_206 : decode code 206 = .ok (.aload_n 0, 1) := by decide +kernel
theorem d_L_law_207 : decode code 207 = .ok (.iload_n 3, 1) := by decide +kernel
theorem d_L_law_208 : decode code 208 = .ok (.iconst 1, 1) := by decide +kernel
theorem d_L_law_209 : decode code 209 = .ok (.iadd, 1) := by decide +kernel
theorem d_L_law_210 : decode code 210 = .ok (.iaload, 1) := by decide +kernel
theorem d_L_law_211 : decode code 211 = .ok (.invokevirtual 27, 3) := by decide +kernel
theorem d_L_law_214 : decode code 214 = .ok (.aload_n 2, 1) := by decide +kernel
theorem d_L_law_215 : decode code 215 = .ok (.aload_n 0, 1) := by decide +kernel
theorem d_L_law_216 : decode code 216 = .ok (.iload_n 3, 1) := by decide +kernel
theorem d_L_law_217 : decode code 217 = .ok (.iconst 1, 1) := by decide +kernel
theorem d_L_law_218 : decode code 218 = .ok (.iadd, 1) := by decide +kernel
theorem d_L_law_219 : decode code 219 = .ok (.iaload, 1) := by decide +kernel
theorem d_L_law_220 : decode code 220 = .ok (.invokevirtual 31, 3) := by decide +kernel
theorem d_L_law_223 : decode code 223 = .ok (.if_icmp .eq 334, 3) := by decide +kernel
theorem d_L_law_226 : decode code 226 = .ok (.iconst 0, 1) := by decide +kernel
theorem d_L_law_227 : decode code 227 = .ok (.ireturn, 1) := by decide +kernel
theorem d_L_law_228 : decode code 228 = .ok (.aload_n 1, 1) := by decide +kernel
theorem d_L_law_229 : decode code 229 = .ok (.aload_n 0, 1) := by decide +kernel
theorem d_L_law_230 : decode code 230 = .ok (.iload_n 3, 1) := by decide +kernel
theorem d_L_law_231 : decode code 231 = .ok (.iconst 1, 1) := by decide +kernel
theorem d_L_law_232 : decode code 232 = .ok (.iadd, 1) := by decide +kernel
theorem d_L_law_233 : decode code 233 = .ok (.iaload, 1) := by decide +kernel
theorem d_L_law_234 : decode code 234 = .ok (.aload_n 0, 1) := by decide +kernel
theorem d_L_law_235 : decode code 235 = .ok (.iload_n 3, 1) := by decide +kernel
theorem d_L_law_236 : decode code 236 = .ok (.iconst 2, 1) := by decide +kernel
theorem d_L_law_237 : decode code 237 = .ok (.iadd, 1) := by decide +kernel
theorem d_L_law_238 : decode code 238 = .ok (.iaload, 1) := by decide +kernel
theorem d_L_law_239 : decode code 239 = .ok (.invokevirtual 32, 3) := by decide +kernel
theorem d_L_law_242 : decode code 242 = .ok (.aload_n 2, 1) := by decide +kernel
theorem d_L_law_243 : decode code 243 = .ok (.aload_n 0, 1) := by decide +kernel
theorem d_L_law_244 : decode code 244 = .ok (.iload_n 3, 1) := by decide +kernel
theorem d_L_law_245 : decode code 245 = .ok (.iconst 1, 1) := by decide +kernel
theorem d_L_law_246 : decode code 246 = .ok (.iadd, 1) := by decide +kernel
theorem d_L_law_247 : decode code 247 = .ok (.iaload, 1) := by decide +kernel
theorem d_L_law_248 : decode code 248 = .ok (.aload_n 0, 1) := by decide +kernel
theorem d_L_law_249 : decode code 249 = .ok (.iload_n 3, 1) := by decide +kernel
theorem d_L_law_250 : decode code 250 = .ok (.iconst 2, 1) := by decide +kernel
theorem d_L_law_251 : decode code 251 = .ok (.iadd, 1) := by decide +kernel
theorem d_L_law_252 : decode code 252 = .ok (.iaload, 1) := by decide +kernel
theorem d_L_law_253 : decode code 253 = .ok (.invokevirtual 36, 3) := by decide +kernel
theorem d_L_law_256 : decode code 256 = .ok (.if_icmp .eq 301, 3) := by decide +kernel
theorem d_L_law_259 : decode code 259 = .ok (.iconst 0, 1) := by decide +kernel
theorem d_L_law_260 : decode code 260 = .ok (.ireturn, 1) := by decide +kernel
theorem d_L_law_261 : decode code 261 = .ok (.aload_n 1, 1) := by decide +kernel
theorem d_L_law_262 : decode code 262 = .ok (.aload_n 0, 1) := by decide +kernel
theorem d_L_law_263 : decode code 263 = .ok (.iload_n 3, 1) := by decide +kernel
theorem d_L_law_264 : decode code 264 = .ok (.iconst 1, 1) := by decide +kernel
theorem d_L_law_265 : decode code 265 = .ok (.iadd, 1) := by decide +kernel
theorem d_L_law_266 : decode code 266 = .ok (.iaload, 1) := by decide +kernel
theorem d_L_law_267 : decode code 267 = .ok (.aload_n 0, 1) := by decide +kernel
theorem d_L_law_268 : decode code 268 = .ok (.iload_n 3, 1) := by decide +kernel
theorem d_L_law_269 : decode code 269 = .ok (.iconst 2, 1) := by decide +kernel
theorem d_L_law_270 : decode code 270 = .ok (.iadd, 1) := by decide +kernel
theorem d_L_law_271 : decode code 271 = .ok (.iaload, 1) := by decide +kernel
theorem d_L_law_272 : decode code 272 = .ok (.invokevirtual 37, 3) := by decide +kernel
theorem d_L_law_275 : decode code 275 = .ok (.aload_n 2, 1) := by decide +kernel
theorem d_L_law_276 : decode code 276 = .ok (.aload_n 0, 1) := by decide +kernel
theorem d_L_law_277 : decode code 277 = .ok (.iload_n 3, 1) := by decide +kernel
theorem d_L_law_278 : decode code 278 = .ok (.iconst 1, 1) := by decide +kernel
theorem d_L_law_279 : decode code 279 = .ok (.iadd, 1) := by decide +kernel
theorem d_L_law_280 : decode code 280 = .ok (.iaload, 1) := by decide +kernel
theorem d_L_law_281 : decode code 281 = .ok (.aload_n 0, 1) := by decide +kernel
theorem d_L_law_282 : decode code 282 = .ok (.iload_n 3, 1) := by decide +kernel
theorem d_L_law_283 : decode code 283 = .ok (.iconst 2, 1) := by decide +kernel
theorem d_L_law_284 : decode code 284 = .ok (.iadd, 1) := by decide +kernel
theorem d_L_law_285 : decode code 285 = .ok (.iaload, 1) := by decide +kernel
theorem d_L_law_286 : decode code 286 = .ok (.invokevirtual 41, 3) := by decide +kernel
theorem d_L_law_289 : decode code 289 = .ok (.if_icmp .eq 268, 3) := by decide +kernel
theorem d_L_law_292 : decode code 292 = .ok (.iconst 0, 1) := by decide +kernel
theorem d_L_law_293 : decode code 293 = .ok (.ireturn, 1) := by decide +kernel
theorem d_L_law_294 : decode code 294 = .ok (.aload_n 1, 1) := by decide +kernel
theorem d_L_law_295 : decode code 295 = .ok (.aload_n 0, 1) := by decide +kernel
theorem d_L_law_296 : decode code 296 = .ok (.iload_n 3, 1) := by decide +kernel
theorem d_L_law_297 : decode code 297 = .ok (.iconst 1, 1) := by decide +kernel
theorem d_L_law_298 : decode code 298 = .ok (.iadd, 1) := by decide +kernel
theorem d_L_law_299 : decode code 299 = .ok (.iaload, 1) := by decide +kernel
theorem d_L_law_300 : decode code 300 = .ok (.aload_n 0, 1) := by decide +kernel
theorem d_L_law_301 : decode code 301 = .ok (.iload_n 3, 1) := by decide +kernel
theorem d_L_law_302 : decode code 302 = .ok (.iconst 2, 1) := by decide +kernel
theorem d_L_law_303 : decode code 303 = .ok (.iadd, 1) := by decide +kernel
theorem d_L_law_304 : decode code 304 = .ok (.iaload, 1) := by decide +kernel
theorem d_L_law_305 : decode code 305 = .ok (.invokevirtual 42, 3) := by decide +kernel
theorem d_L_law_308 : decode code 308 = .ok (.aload_n 2, 1) := by decide +kernel
theorem d_L_law_309 : decode code 309 = .ok (.aload_n 0, 1) := by decide +kernel
theorem d_L_law_310 : decode code 310 = .ok (.iload_n 3, 1) := by decide +kernel
theorem d_L_law_311 : decode code 311 = .ok (.iconst 1, 1) := by decide +kernel
theorem d_L_law_312 : decode code 312 = .ok (.iadd, 1) := by decide +kernel
theorem d_L_law_313 : decode code 313 = .ok (.iaload, 1) := by decide +kernel
theorem d_L_law_314 : decode code 314 = .ok (.aload_n 0, 1) := by decide +kernel
theorem d_L_law_315 : decode code 315 = .ok (.iload_n 3, 1) := by decide +kernel
theorem d_L_law_316 : decode code 316 = .ok (.iconst 2, 1) := by decide +kernel
theorem d_L_law_317 : decode code 317 = .ok (.iadd, 1) := by decide +kernel
theorem d_L_law_318 : decode code 318 = .ok (.iaload, 1) := by decide +kernel
theorem d_L_law_319 : decode code 319 = .ok (.invokevirtual 45, 3) := by decide +kernel
theorem d_L_law_322 : decode code 322 = .ok (.if_icmp .eq 235, 3) := by decide +kernel
theorem d_L_law_325 : decode code 325 = .ok (.iconst 0, 1) := by decide +kernel
theorem d_L_law_326 : decode code 326 = .ok (.ireturn, 1) := by decide +kernel
theorem d_L_law_327 : decode code 327 = .ok (.aload_n 1, 1) := by decide +kernel
theorem d_L_law_328 : decode code 328 = .ok (.aload_n 0, 1) := by decide +kernel
theorem d_L_law_329 : decode code 329 = .ok (.iload_n 3, 1) := by decide +kernel
theorem d_L_law_330 : decode code 330 = .ok (.iconst 1, 1) := by decide +kernel
theorem d_L_law_331 : decode code 331 = .ok (.iadd, 1) := by decide +kernel
theorem d_L_law_332 : decode code 332 = .ok (.iaload, 1) := by decide +kernel
theorem d_L_law_333 : decode code 333 = .ok (.aload_n 0, 1) := by decide +kernel
theorem d_L_law_334 : decode code 334 = .ok (.iload_n 3, 1) := by decide +kernel
theorem d_L_law_335 : decode code 335 = .ok (.iconst 2, 1) := by decide +kernel
theorem d_L_law_336 : decode code 336 = .ok (.iadd, 1) := by decide +kernel
theorem d_L_law_337 : decode code 337 = .ok (.iaload, 1) := by decide +kernel
theorem d_L_law_338 : decode code 338 = .ok (.invokevirtual 46, 3) := by decide +kernel
theorem d_L_law_341 : decode code 341 = .ok (.aload_n 2, 1) := by decide +kernel
theorem d_L_law_342 : decode code 342 = .ok (.aload_n 0, 1) := by decide +kernel
theorem d_L_law_343 : decode code 343 = .ok (.iload_n 3, 1) := by decide +kernel
theorem d_L_law_344 : decode code 344 = .ok (.iconst 1, 1) := by decide +kernel
theorem d_L_law_345 : decode code 345 = .ok (.iadd, 1) := by decide +kernel
theorem d_L_law_346 : decode code 346 = .ok (.iaload, 1) := by decide +kernel
theorem d_L_law_347 : decode code 347 = .ok (.aload_n 0, 1) := by decide +kernel
theorem d_L_law_348 : decode code 348 = .ok (.iload_n 3, 1) := by decide +kernel
theorem d_L_law_349 : decode code 349 = .ok (.iconst 2, 1) := by decide +kernel
theorem d_L_law_350 : decode code 350 = .ok (.iadd, 1) := by decide +kernel
theorem d_L_law_351 : decode code 351 = .ok (.iaload, 1) := by decide +kernel
theorem d_L_law_352 : decode code 352 = .ok (.invokevirtual 49, 3) := by decide +kernel
theorem d_L_law_355 : decode code 355 = .ok (.if_icmp .eq 202, 3) := by decide +kernel
theorem d_L_law_358 : decode code 358 = .ok (.iconst 0, 1) := by decide +kernel
theorem d_L_law_359 : decode code 359 = .ok (.ireturn, 1) := by decide +kernel
theorem d_L_law_360 : decode code 360 = .ok (.aload_n 1, 1) := by decide +kernel
theorem d_L_law_361 : decode code 361 = .ok (.aload_n 0, 1) := by decide +kernel
theorem d_L_law_362 : decode code 362 = .ok (.iload_n 3, 1) := by decide +kernel
theorem d_L_law_363 : decode code 363 = .ok (.iconst 1, 1) := by decide +kernel
theorem d_L_law_364 : decode code 364 = .ok (.iadd, 1) := by decide +kernel
theorem d_L_law_365 : decode code 365 = .ok (.iaload, 1) := by decide +kernel
theorem d_L_law_366 : decode code 366 = .ok (.aload_n 0, 1) := by decide +kernel
theorem d_L_law_367 : decode code 367 = .ok (.iload_n 3, 1) := by decide +kernel
theorem d_L_law_368 : decode code 368 = .ok (.iconst 2, 1) := by decide +kernel
theorem d_L_law_369 : decode code 369 = .ok (.iadd, 1) := by decide +kernel
theorem d_L_law_370 : decode code 370 = .ok (.iaload, 1) := by decide +kernel
theorem d_L_law_371 : decode code 371 = .ok (.aload_n 0, 1) := by decide +kernel
theorem d_L_law_372 : decode code 372 = .ok (.iload_n 3, 1) := by decide +kernel
theorem d_L_law_373 : decode code 373 = .ok (.iconst 3, 1) := by decide +kernel
theorem d_L_law_374 : decode code 374 = .ok (.iadd, 1) := by decide +kernel
theorem d_L_law_375 : decode code 375 = .ok (.iaload, 1) := by decide +kernel
theorem d_L_law_376 : decode code 376 = .ok (.aload_n 0, 1) := by decide +kernel
theorem d_L_law_377 : decode code 377 = .ok (.iload_n 3, 1) := by decide +kernel
theorem d_L_law_378 : decode code 378 = .ok (.iconst 4, 1) := by decide +kernel
theorem d_L_law_379 : decode code 379 = .ok (.iadd, 1) := by decide +kernel
theorem d_L_law_380 : decode code 380 = .ok (.iaload, 1) := by decide +kernel
theorem d_L_law_381 : decode code 381 = .ok (.invokevirtual 50, 3) := by decide +kernel
theorem d_L_law_384 : decode code 384 = .ok (.aload_n 2, 1) := by decide +kernel
theorem d_L_law_385 : decode code 385 = .ok (.aload_n 0, 1) := by decide +kernel
theorem d_L_law_386 : decode code 386 = .ok (.iload_n 3, 1) := by decide +kernel
theorem d_L_law_387 : decode code 387 = .ok (.iconst 1, 1) := by decide +kernel
theorem d_L_law_388 : decode code 388 = .ok (.iadd, 1) := by decide +kernel
theorem d_L_law_389 : decode code 389 = .ok (.iaload, 1) := by decide +kernel
theorem d_L_law_390 : decode code 390 = .ok (.aload_n 0, 1) := by decide +kernel
theorem d_L_law_391 : decode code 391 = .ok (.iload_n 3, 1) := by decide +kernel
theorem d_L_law_392 : decode code 392 = .ok (.iconst 2, 1) := by decide +kernel
theorem d_L_law_393 : decode code 393 = .ok (.iadd, 1) := by decide +kernel
theorem d_L_law_394 : decode code 394 = .ok (.iaload, 1) := by decide +kernel
theorem d_L_law_395 : decode code 395 = .ok (.aload_n 0, 1) := by decide +kernel
theorem d_L_law_396 : decode code 396 = .ok (.iload_n 3, 1) := by decide +kernel
theorem d_L_law_397 : decode code 397 = .ok (.iconst 3, 1) := by decide +kernel
theorem d_L_law_398 : decode code 398 = .ok (.iadd, 1) := by decide +kernel
theorem d_L_law_399 : decode code 399 = .ok (.iaload, 1) := by decide +kernel
theorem d_L_law_400 : decode code 400 = .ok (.aload_n 0, 1) := by decide +kernel
theorem d_L_law_401 : decode code 401 = .ok (.iload_n 3, 1) := by decide +kernel
theorem d_L_law_402 : decode code 402 = .ok (.iconst 4, 1) := by decide +kernel
theorem d_L_law_403 : decode code 403 = .ok (.iadd, 1) := by decide +kernel
theorem d_L_law_404 : decode code 404 = .ok (.iaload, 1) := by decide +kernel
theorem d_L_law_405 : decode code 405 = .ok (.invokevirtual 54, 3) := by decide +kernel
theorem d_L_law_408 : decode code 408 = .ok (.if_icmp .eq 149, 3) := by decide +kernel
theorem d_L_law_411 : decode code 411 = .ok (.iconst 0, 1) := by decide +kernel
theorem d_L_law_412 : decode code 412 = .ok (.ireturn, 1) := by decide +kernel
theorem d_L_law_413 : decode code 413 = .ok (.aload_n 1, 1) := by decide +kernel
theorem d_L_law_414 : decode code 414 = .ok (.aload_n 0, 1) := by decide +kernel
theorem d_L_law_415 : decode code 415 = .ok (.iload_n 3, 1) := by decide +kernel
theorem d_L_law_416 : decode code 416 = .ok (.iconst 1, 1) := by decide +kernel
theorem d_L_law_417 : decode code 417 = .ok (.iadd, 1) := by decide +kernel
theorem d_L_law_418 : decode code 418 = .ok (.iaload, 1) := by decide +kernel
theorem d_L_law_419 : decode code 419 = .ok (.invokevirtual 55, 3) := by decide +kernel
theorem d_L_law_422 : decode code 422 = .ok (.aload_n 2, 1) := by decide +kernel
theorem d_L_law_423 : decode code 423 = .ok (.aload_n 0, 1) := by decide +kernel
theorem d_L_law_424 : decode code 424 = .ok (.iload_n 3, 1) := by decide +kernel
theorem d_L_law_425 : decode code 425 = .ok (.iconst 1, 1) := by decide +kernel
theorem d_L_law_426 : decode code 426 = .ok (.iadd, 1) := by decide +kernel
theorem d_L_law_427 : decode code 427 = .ok (.iaload, 1) := by decide +kernel
theorem d_L_law_428 : decode code 428 = .ok (.invokevirtual 58, 3) := by decide +kernel
theorem d_L_law_431 : decode code 431 = .ok (.if_icmp .eq 126, 3) := by decide +kernel
theorem d_L_law_434 : decode code 434 = .ok (.iconst 0, 1) := by decide +kernel
theorem d_L_law_435 : decode code 435 = .ok (.ireturn, 1) := by decide +kernel
theorem d_L_law_436 : decode code 436 = .ok (.aload_n 1, 1) := by decide +kernel
theorem d_L_law_437 : decode code 437 = .ok (.invokevirtual 59, 3) := by decide +kernel
theorem d_L_law_440 : decode code 440 = .ok (.aload_n 2, 1) := by decide +kernel
theorem d_L_law_441 : decode code 441 = .ok (.invokevirtual 63, 3) := by decide +kernel
theorem d_L_law_444 : decode code 444 = .ok (.if_icmp .eq 113, 3) := by decide +kernel
theorem d_L_law_447 : decode code 447 = .ok (.iconst 0, 1) := by decide +kernel
theorem d_L_law_448 : decode code 448 = .ok (.ireturn, 1) := by decide +kernel
theorem d_L_law_449 : decode code 449 = .ok (.aload_n 1, 1) := by decide +kernel
theorem d_L_law_450 : decode code 450 = .ok (.invokevirtual 64, 3) := by decide +kernel
theorem d_L_law_453 : decode code 453 = .ok (.aload_n 2, 1) := by decide +kernel
theorem d_L_law_454 : decode code 454 = .ok (.invokevirtual 67, 3) := by decide +kernel
theorem d_L_law_457 : decode code 457 = .ok (.if_icmp .eq 100, 3) := by decide +kernel
theorem d_L_law_460 : decode code 460 = .ok (.iconst 0, 1) := by decide +kernel
theorem d_L_law_461 : decode code 461 = .ok (.ireturn, 1) := by decide +kernel
theorem d_L_law_462 : decode code 462 = .ok (.aload_n 1, 1) := by decide +kernel
theorem d_L_law_463 : decode code 463 = .ok (.invokevirtual 68, 3) := by decide +kernel
theorem d_L_law_466 : decode code 466 = .ok (.aload_n 2, 1) := by decide +kernel
theorem d_L_law_467 : decode code 467 = .ok (.invokevirtual 71, 3) := by decide +kernel
theorem d_L_law_470 : decode code 470 = .ok (.if_icmp .eq 87, 3) := by decide +kernel
theorem d_L_law_473 : decode code 473 = .ok (.iconst 0, 1) := by decide +kernel
theorem d_L_law_474 : decode code 474 = .ok (.ireturn, 1) := by decide +kernel
theorem d_L_law_475 : decode code 475 = .ok (.aload_n 1, 1) := by decide +kernel
theorem d_L_law_476 : decode code 476 = .ok (.aload_n 0, 1) := by decide +kernel
theorem d_L_law_477 : decode code 477 = .ok (.iload_n 3, 1) := by decide +kernel
theorem d_L_law_478 : decode code 478 = .ok (.iconst 1, 1) := by decide +kernel
theorem d_L_law_479 : decode code 479 = .ok (.iadd, 1) := by decide +kernel
theorem d_L_law_480 : decode code 480 = .ok (.iaload, 1) := by decide +kernel
theorem d_L_law_481 : decode code 481 = .ok (.invokevirtual 72, 3) := by decide +kernel
theorem d_L_law_484 : decode code 484 = .ok (.aload_n 2, 1) := by decide +kernel
theorem d_L_law_485 : decode code 485 = .ok (.aload_n 0, 1) := by decide +kernel
theorem d_L_law_486 : decode code 486 = .ok (.iload_n 3, 1) := by decide +kernel
theorem d_L_law_487 : decode code 487 = .ok (.iconst 1, 1) := by decide +kernel
theorem d_L_law_488 : decode code 488 = .ok (.iadd, 1) := by decide +kernel
theorem d_L_law_489 : decode code 489 = .ok (.iaload, 1) := by decide +kernel
theorem d_L_law_490 : decode code 490 = .ok (.invokevirtual 75, 3) := by decide +kernel
theorem d_L_law_493 : decode code 493 = .ok (.if_icmp .eq 64, 3) := by decide +kernel
theorem d_L_law_496 : decode code 496 = .ok (.iconst 0, 1) := by decide +kernel
theorem d_L_law_497 : decode code 497 = .ok (.ireturn, 1) := by decide +kernel
theorem d_L_law_498 : decode code 498 = .ok (.aload_n 1, 1) := by decide +kernel
theorem d_L_law_499 : decode code 499 = .ok (.aload_n 0, 1) := by decide +kernel
theorem d_L_law_500 : decode code 500 = .ok (.iload_n 3, 1) := by decide +kernel
theorem d_L_law_501 : decode code 501 = .ok (.iconst 1, 1) := by decide +kernel
theorem d_L_law_502 : decode code 502 = .ok (.iadd, 1) := by decide +kernel
theorem d_L_law_503 : decode code 503 = .ok (.iaload, 1) := by decide +kernel
theorem d_L_law_504 : decode code 504 = .ok (.invokevirtual 76, 3) := by decide +kernel
theorem d_L_law_507 : decode code 507 = .ok (.aload_n 2, 1) := by decide +kernel
theorem d_L_law_508 : decode code 508 = .ok (.aload_n 0, 1) := by decide +kernel
theorem d_L_law_509 : decode code 509 = .ok (.iload_n 3, 1) := by decide +kernel
theorem d_L_law_510 : decode code 510 = .ok (.iconst 1, 1) := by decide +kernel
theorem d_L_law_511 : decode code 511 = .ok (.iadd, 1) := by decide +kernel
theorem d_L_law_512 : decode code 512 = .ok (.iaload, 1) := by decide +kernel
theorem d_L_law_513 : decode code 513 = .ok (.invokevirtual 79, 3) := by decide +kernel
theorem d_L_law_516 : decode code 516 = .ok (.if_icmp .eq 41, 3) := by decide +kernel
theorem d_L_law_519 : decode code 519 = .ok (.iconst 0, 1) := by decide +kernel
theorem d_L_law_520 : decode code 520 = .ok (.ireturn, 1) := by decide +kernel
theorem d_L_law_521 : decode code 521 = .ok (.aload_n 1, 1) := by decide +kernel
theorem d_L_law_522 : decode code 522 = .ok (.aload_n 0, 1) := by decide +kernel
theorem d_L_law_523 : decode code 523 = .ok (.iload_n 3, 1) := by decide +kernel
theorem d_L_law_524 : decode code 524 = .ok (.iconst 1, 1) := by decide +kernel
theorem d_L_law_525 : decode code 525 = .ok (.iadd, 1) := by decide +kernel
theorem d_L_law_526 : decode code 526 = .ok (.iaload, 1) := by decide +kernel
theorem d_L_law_527 : decode code 527 = .ok (.invokevirtual 80, 3) := by decide +kernel
theorem d_L_law_530 : decode code 530 = .ok (.aload_n 2, 1) := by decide +kernel
theorem d_L_law_531 : decode code 531 = .ok (.aload_n 0, 1) := by decide +kernel
theorem d_L_law_532 : decode code 532 = .ok (.iload_n 3, 1) := by decide +kernel
theorem d_L_law_533 : decode code 533 = .ok (.iconst 1, 1) := by decide +kernel
theorem d_L_law_534 : decode code 534 = .ok (.iadd, 1) := by decide +kernel
theorem d_L_law_535 : decode code 535 = .ok (.iaload, 1) := by decide +kernel
theorem d_L_law_536 : decode code 536 = .ok (.invokevirtual 83, 3) := by decide +kernel
theorem d_L_law_539 : decode code 539 = .ok (.if_icmp .eq 18, 3) := by decide +kernel
theorem d_L_law_542 : decode code 542 = .ok (.iconst 0, 1) := by decide +kernel
theorem d_L_law_543 : decode code 543 = .ok (.ireturn, 1) := by decide +kernel
theorem d_L_law_544 : decode code 544 = .ok (.aload_n 1, 1) := by decide +kernel
theorem d_L_law_545 : decode code 545 = .ok (.invokevirtual 84, 3) := by decide +kernel
theorem d_L_law_548 : decode code 548 = .ok (.aload_n 2, 1) := by decide +kernel
theorem d_L_law_549 : decode code 549 = .ok (.invokevirtual 87, 3) := by decide +kernel
theorem d_L_law_552 : decode code 552 = .ok (.if_icmp .eq 5, 3) := by decide +kernel
theorem d_L_law_555 : decode code 555 = .ok (.iconst 0, 1) := by decide +kernel
theorem d_L_law_556 : decode code 556 = .ok (.ireturn, 1) := by decide +kernel
theorem d_L_law_557 : decode code 557 = .ok (.iinc 3 5, 3) := by decide +kernel
theorem d_L_law_560 : decode code 560 = .ok (.goto (-542), 3) := by decide +kernel
theorem d_L_law_563 : decode code 563 = .ok (.iconst 1, 1) := by decide +kernel
theorem d_L_law_564 : decode code 564 = .ok (.ireturn, 1) := by decide +kernel
def wb_L_law_18 (p0 : Option Nat) (Q : Int32 → ab_H → Prop)  (k18 : Option Nat → Option Nat → Int32 → ab_H → Nat → Nat → Prop) (u1 : Option Nat) (u2 : Option Nat) (u3 : Int32) (A : ab_H) (kc ks : Nat) : Prop := wLen A p0 (fun x1 => if (x1 - (5 : Int32)) < u3 then (Q (1 : Int32) A) else (wAI A p0 u3 (fun x2 => if (x2 &&& (31 : Int32)) = 0 then (wAI A p0 (u3 + (1 : Int32)) (fun x3 => wAI A p0 (u3 + (2 : Int32)) (fun x4 => wAI A p0 (u3 + (3 : Int32)) (fun x5 => wC A u1 3 (fun b => wX kc ks (wp_S_send b x3 x4 x5 A) (fun x6 A kc ks => wAI A p0 (u3 + (1 : Int32)) (fun x7 => wAI A p0 (u3 + (2 : Int32)) (fun x8 => wAI A p0 (u3 + (3 : Int32)) (fun x9 => wC A u2 14 (fun b => wp_M_send b x7 x8 x9 A (fun x10 A => if x6 = x10 then (k18 u1 u2 (u3 + 5) A kc ks) else (Q (0 : Int32) A)))))))))))) else (if (x2 &&& (31 : Int32)) = 1 then (wAI A p0 (u3 + (1 : Int32)) (fun x11 => wC A u1 3 (fun b => wX kc ks (wp_S_open b x11 A) (fun x12 A kc ks => wAI A p0 (u3 + (1 : Int32)) (fun x13 => wC A u2 14 (fun b => wp_M_open b x13 A (fun x14 A => if x12 = x14 then (k18 u1 u2 (u3 + 5) A kc ks) else (Q (0 : Int32) A)))))))) else (if (x2 &&& (31 : Int32)) = 2 then (wAI A p0 (u3 + (1 : Int32)) (fun x15 => wC A u1 3 (fun b => wp_S_isOpen b x15 A (fun x16 A => wAI A p0 (u3 + (1 : Int32)) (fun x17 => wC A u2 14 (fun b => wp_M_isOpen b x17 A (fun x18 A => if x16 = x18 then (k18 u1 u2 (u3 + 5) A kc ks) else (Q (0 : Int32) A)))))))) else (if (x2 &&& (31 : Int32)) = 3 then (wAI A p0 (u3 + (1 : Int32)) (fun x19 => wC A u1 3 (fun b => wp_S_size b x19 A (fun x20 A => wAI A p0 (u3 + (1 : Int32)) (fun x21 => wC A u2 14 (fun b => wp_M_size b x21 A (fun x22 A => if x20 = x22 then (k18 u1 u2 (u3 + 5) A kc ks) else (Q (0 : Int32) A)))))))) else (if (x2 &&& (31 : Int32)) = 4 then (wAI A p0 (u3 + (1 : Int32)) (fun x23 => wAI A p0 (u3 + (2 : Int32)) (fun x24 => wC A u1 3 (fun b => wp_S_at b x23 x24 A (fun x25 A => wAI A p0 (u3 + (1 : Int32)) (fun x26 => wAI A p0 (u3 + (2 : Int32)) (fun x27 => wC A u2 14 (fun b => wp_M_at b x26 x27 A (fun x28 A => if x25 = x28 then (k18 u1 u2 (u3 + 5) A kc ks) else (Q (0 : Int32) A)))))))))) else (if (x2 &&& (31 : Int32)) = 5 then (wAI A p0 (u3 + (1 : Int32)) (fun x29 => wAI A p0 (u3 + (2 : Int32)) (fun x30 => wC A u1 3 (fun b => wX kc ks (wp_S_type b x29 x30 A) (fun x31 A kc ks => wAI A p0 (u3 + (1 : Int32)) (fun x32 => wAI A p0 (u3 + (2 : Int32)) (fun x33 => wC A u2 14 (fun b => wp_M_type b x32 x33 A (fun x34 A => if x31 = x34 then (k18 u1 u2 (u3 + 5) A kc ks) else (Q (0 : Int32) A)))))))))) else (if (x2 &&& (31 : Int32)) = 6 then (wAI A p0 (u3 + (1 : Int32)) (fun x35 => wAI A p0 (u3 + (2 : Int32)) (fun x36 => wC A u1 3 (fun b => wX kc ks (wp_S_match b x35 x36 A) (fun x37 A kc ks => wAI A p0 (u3 + (1 : Int32)) (fun x38 => wAI A p0 (u3 + (2 : Int32)) (fun x39 => wC A u2 14 (fun b => wp_M_match b x38 x39 A (fun x40 A => if x37 = x40 then (k18 u1 u2 (u3 + 5) A kc ks) else (Q (0 : Int32) A)))))))))) else (if (x2 &&& (31 : Int32)) = 7 then (wAI A p0 (u3 + (1 : Int32)) (fun x41 => wAI A p0 (u3 + (2 : Int32)) (fun x42 => wC A u1 3 (fun b => wX kc ks (wp_S_stub b x41 x42 A) (fun x43 A kc ks => wAI A p0 (u3 + (1 : Int32)) (fun x44 => wAI A p0 (u3 + (2 : Int32)) (fun x45 => wC A u2 14 (fun b => wp_M_stub b x44 x45 A (fun x46 A => if x43 = x46 then (k18 u1 u2 (u3 + 5) A kc ks) else (Q (0 : Int32) A)))))))))) else (if (x2 &&& (31 : Int32)) = 8 then (wAI A p0 (u3 + (1 : Int32)) (fun x47 => wAI A p0 (u3 + (2 : Int32)) (fun x48 => wAI A p0 (u3 + (3 : Int32)) (fun x49 => wAI A p0 (u3 + (4 : Int32)) (fun x50 => wC A u1 3 (fun b => wX kc ks (wp_S_scene b x47 x48 x49 x50 A) (fun x51 A kc ks => wAI A p0 (u3 + (1 : Int32)) (fun x52 => wAI A p0 (u3 + (2 : Int32)) (fun x53 => wAI A p0 (u3 + (3 : Int32)) (fun x54 => wAI A p0 (u3 + (4 : Int32)) (fun x55 => wC A u2 14 (fun b => wp_M_scene b x52 x53 x54 x55 A (fun x56 A => if x51 = x56 then (k18 u1 u2 (u3 + 5) A kc ks) else (Q (0 : Int32) A)))))))))))))) else (if (x2 &&& (31 : Int32)) = 9 then (wAI A p0 (u3 + (1 : Int32)) (fun x57 => wC A u1 3 (fun b => wp_S_remove b x57 A (fun x58 A => wAI A p0 (u3 + (1 : Int32)) (fun x59 => wC A u2 14 (fun b => wp_M_remove b x59 A (fun x60 A => if x58 = x60 then (k18 u1 u2 (u3 + 5) A kc ks) else (Q (0 : Int32) A)))))))) else (if (x2 &&& (31 : Int32)) = 10 then (wC A u1 3 (fun b => wp_S_reset b  A (fun x61 A => wC A u2 14 (fun b => wp_M_reset b  A (fun x62 A => if x61 = x62 then (k18 u1 u2 (u3 + 5) A kc ks) else (Q (0 : Int32) A)))))) else (if (x2 &&& (31 : Int32)) = 11 then (wC A u1 3 (fun b => wp_S_count b  A (fun x63 A => wC A u2 14 (fun b => wp_M_count b  A (fun x64 A => if x63 = x64 then (k18 u1 u2 (u3 + 5) A kc ks) else (Q (0 : Int32) A)))))) else (if (x2 &&& (31 : Int32)) = 12 then (wC A u1 3 (fun b => wp_S_journal b  A (fun x65 A => wC A u2 14 (fun b => wp_M_journal b  A (fun x66 A => if x65 = x66 then (k18 u1 u2 (u3 + 5) A kc ks) else (Q (0 : Int32) A)))))) else (if (x2 &&& (31 : Int32)) = 13 then (wAI A p0 (u3 + (1 : Int32)) (fun x67 => wC A u1 3 (fun b => wp_S_chosen b x67 A (fun x68 A => wAI A p0 (u3 + (1 : Int32)) (fun x69 => wC A u2 14 (fun b => wp_M_chosen b x69 A (fun x70 A => if x68 = x70 then (k18 u1 u2 (u3 + 5) A kc ks) else (Q (0 : Int32) A)))))))) else (if (x2 &&& (31 : Int32)) = 14 then (wAI A p0 (u3 + (1 : Int32)) (fun x71 => wC A u1 3 (fun b => wp_S_near b x71 A (fun x72 A => wAI A p0 (u3 + (1 : Int32)) (fun x73 => wC A u2 14 (fun b => wp_M_near b x73 A (fun x74 A => if x72 = x74 then (k18 u1 u2 (u3 + 5) A kc ks) else (Q (0 : Int32) A)))))))) else (if (x2 &&& (31 : Int32)) = 15 then (wAI A p0 (u3 + (1 : Int32)) (fun x75 => wC A u1 3 (fun b => wp_S_state b x75 A (fun x76 A => wAI A p0 (u3 + (1 : Int32)) (fun x77 => wC A u2 14 (fun b => wp_M_state b x77 A (fun x78 A => if x76 = x78 then (k18 u1 u2 (u3 + 5) A kc ks) else (Q (0 : Int32) A)))))))) else (if (x2 &&& (31 : Int32)) = 16 then (wC A u1 3 (fun b => wp_S_served b  A (fun x79 A => wC A u2 14 (fun b => wp_M_served b  A (fun x80 A => if x79 = x80 then (k18 u1 u2 (u3 + 5) A kc ks) else (Q (0 : Int32) A)))))) else (k18 u1 u2 (u3 + 5) A kc ks))))))))))))))))))))
def wq_L_law_18 (p0 : Option Nat) (Q : Int32 → ab_H → Prop)  : Nat → Option Nat → Option Nat → Int32 → ab_H → Nat → Nat → Prop
  | 0 => fun _ _ _ _ _ _ => False
  | n + 1 => wb_L_law_18 p0 Q  (wq_L_law_18 p0 Q  n)
set_option maxRecDepth 100000 in
set_option maxHeartbeats 4000000 in
theorem sq_L_law_18 {l : Launch} {G : mm_G} {p0 : Option Nat} {Q : Int32 → ab_H → Prop}   : ∀ (n : Nat) (u1 : Option Nat) (u2 : Option Nat) (u3 : Int32) (A : ab_H) (kc ks : Nat) (h : mm_H), Vw G h A → wq_L_law_18 p0 Q  n u1 u2 u3 A kc ks → mm_V l G M_L_law kc ks 18 [some (va_rf p0), some (va_rf u1), some (va_rf u2), some (.int u3)] [] h (wQI G Q) := by
  intro n
  induction n with
  | zero =>
    intro u1 u2 u3 A kc ks h hV hw
    exact absurd hw id
  | succ n hk18 =>
    intro u1 u2 u3 A kc ks h hV hw
    have hw : wb_L_law_18 p0 Q  (wq_L_law_18 p0 Q  n) u1 u2 u3 A kc ks := hw
    unfold wb_L_law_18 at hw
    refine mm_iload_n (pc' := 19) d_L_law_18 rfl rfl rfl ?_
    refine wr_aload_n p0 (pc' := 20) d_L_law_19 rfl rfl rfl ?_
    refine wr_len hV hw (pc' := 21) d_L_law_20 rfl (fun x1 hw => ?_)
    refine mm_iconst (v := 5) (pc' := 22) d_L_law_21 rfl (by decide) ?_
    refine mm_isub (pc' := 23) d_L_law_22 rfl ?_
    refine wr_icmp_gt hw (pc' := 26) d_L_law_23 rfl rfl (fun hw => ?_) (fun hw => ?_)
    · refine mm_iconst (v := 1) (pc' := 564) d_L_law_563 rfl (by decide) ?_
      exact wr_iret hV d_L_law_564 rfl rfl hw
    · refine wr_aload_n p0 (pc' := 27) d_L_law_26 rfl rfl rfl ?_
      refine mm_iload_n (pc' := 28) d_L_law_27 rfl rfl rfl ?_
      refine wr_aldI hV hw (pc' := 29) d_L_law_28 rfl (fun x2 hw => ?_)
      refine mm_bipush (v := 31) (pc' := 31) d_L_law_29 rfl (by decide) ?_
      refine mm_iand (pc' := 32) d_L_law_31 rfl ?_
      refine wr_ite hw (fun hs hw => ?_) (fun hs0 hw => ?_)
      · rw [hs]
        refine mm_tableIn (tgt := 116) d_L_law_32 (by decide) (by decide) rfl rfl ?_
        refine wr_aload_n u1 (pc' := 117) d_L_law_116 rfl rfl rfl ?_
        refine wr_aload_n p0 (pc' := 118) d_L_law_117 rfl rfl rfl ?_
        refine mm_iload_n (pc' := 119) d_L_law_118 rfl rfl rfl ?_
        refine mm_iconst (v := 1) (pc' := 120) d_L_law_119 rfl (by decide) ?_
        refine mm_iadd (pc' := 121) d_L_law_120 rfl ?_
        refine wr_aldI hV hw (pc' := 122) d_L_law_121 rfl (fun x3 hw => ?_)
        refine wr_aload_n p0 (pc' := 123) d_L_law_122 rfl rfl rfl ?_
        refine mm_iload_n (pc' := 124) d_L_law_123 rfl rfl rfl ?_
        refine mm_iconst (v := 2) (pc' := 125) d_L_law_124 rfl (by decide) ?_
        refine mm_iadd (pc' := 126) d_L_law_125 rfl ?_
        refine wr_aldI hV hw (pc' := 127) d_L_law_126 rfl (fun x4 hw => ?_)
        refine wr_aload_n p0 (pc' := 128) d_L_law_127 rfl rfl rfl ?_
        refine mm_iload_n (pc' := 129) d_L_law_128 rfl rfl rfl ?_
        refine mm_iconst (v := 3) (pc' := 130) d_L_law_129 rfl (by decide) ?_
        refine mm_iadd (pc' := 131) d_L_law_130 rfl ?_
        refine wr_aldI hV hw (pc' := 132) d_L_law_131 rfl (fun x5 hw => ?_)
        refine wr_cVIx (pc' := 135) (as := [.int x3, .int x4, .int x5]) (st := []) d_L_law_132 rfl cs_L_13 rfl (W := fun b c s Q' => wp_S_send b x3 x4 x5 A c s Q') hV hw (fun b c s Q' hw => sd_S_send hV hw) rfl rfl (Nat.le_of_ble_eq_true rfl) (Nat.le_of_ble_eq_true rfl) (fun x6 h A kc ks hV hw => ?_)
        refine wr_aload_n u2 (pc' := 136) d_L_law_135 rfl rfl rfl ?_
        refine wr_aload_n p0 (pc' := 137) d_L_law_136 rfl rfl rfl ?_
        refine mm_iload_n (pc' := 138) d_L_law_137 rfl rfl rfl ?_
        refine mm_iconst (v := 1) (pc' := 139) d_L_law_138 rfl (by decide) ?_
        refine mm_iadd (pc' := 140) d_L_law_139 rfl ?_
        refine wr_aldI hV hw (pc' := 141) d_L_law_140 rfl (fun x7 hw => ?_)
        refine wr_aload_n p0 (pc' := 142) d_L_law_141 rfl rfl rfl ?_
        refine mm_iload_n (pc' := 143) d_L_law_142 rfl rfl rfl ?_
        refine mm_iconst (v := 2) (pc' := 144) d_L_law_143 rfl (by decide) ?_
        refine mm_iadd (pc' := 145) d_L_law_144 rfl ?_
        refine wr_aldI hV hw (pc' := 146) d_L_law_145 rfl (fun x8 hw => ?_)
        refine wr_aload_n p0 (pc' := 147) d_L_law_146 rfl rfl rfl ?_
        refine mm_iload_n (pc' := 148) d_L_law_147 rfl rfl rfl ?_
        refine mm_iconst (v := 3) (pc' := 149) d_L_law_148 rfl (by decide) ?_
        refine mm_iadd (pc' := 150) d_L_law_149 rfl ?_
        refine wr_aldI hV hw (pc' := 151) d_L_law_150 rfl (fun x9 hw => ?_)
        refine wr_cVI (pc' := 154) (as := [.int x7, .int x8, .int x9]) (st := [.int x6]) d_L_law_151 rfl cs_L_17 rfl (W := fun b Q' => wp_M_send b x7 x8 x9 A Q') hV hw (fun b Q' hw => sd_M_send hV hw) rfl rfl (Nat.le_of_ble_eq_true rfl) (Nat.le_of_ble_eq_true rfl) (fun x10 h A hV hw => ?_)
        refine wr_icmp_eq hw (pc' := 157) d_L_law_154 rfl rfl (fun hw => ?_) (fun hw => ?_)
        · refine mm_iinc3 (v := (u3 + 5)) (pc' := 560) d_L_law_557 rfl (wr_2 _) rfl (Nat.le_of_ble_eq_true rfl) ?_
          refine mm_goto (tgt := 18) d_L_law_560 rfl ?_
          exact mm_drop (mm_le.s (mm_le.s (mm_le.s (mm_le.s mm_le.e)))) (hk18 _ _ _ _ _ _ _ hV hw)
        · refine mm_iconst (v := 0) (pc' := 158) d_L_law_157 rfl (by decide) ?_
          exact wr_iret hV d_L_law_158 rfl rfl hw
      refine wr_ite hw (fun hs hw => ?_) (fun hs1 hw => ?_)
      · rw [hs]
        refine mm_tableIn (tgt := 159) d_L_law_32 (by decide) (by decide) rfl rfl ?_
        refine wr_aload_n u1 (pc' := 160) d_L_law_159 rfl rfl rfl ?_
        refine wr_aload_n p0 (pc' := 161) d_L_law_160 rfl rfl rfl ?_
        refine mm_iload_n (pc' := 162) d_L_law_161 rfl rfl rfl ?_
        refine mm_iconst (v := 1) (pc' := 163) d_L_law_162 rfl (by decide) ?_
        refine mm_iadd (pc' := 164) d_L_law_163 rfl ?_
        refine wr_aldI hV hw (pc' := 165) d_L_law_164 rfl (fun x11 hw => ?_)
        refine wr_cVIx (pc' := 168) (as := [.int x11]) (st := []) d_L_law_165 rfl cs_L_18 rfl (W := fun b c s Q' => wp_S_open b x11 A c s Q') hV hw (fun b c s Q' hw => sd_S_open hV hw) rfl rfl (Nat.le_of_ble_eq_true rfl) (Nat.le_of_ble_eq_true rfl) (fun x12 h A kc ks hV hw => ?_)
        refine wr_aload_n u2 (pc' := 169) d_L_law_168 rfl rfl rfl ?_
        refine wr_aload_n p0 (pc' := 170) d_L_law_169 rfl rfl rfl ?_
        refine mm_iload_n (pc' := 171) d_L_law_170 rfl rfl rfl ?_
        refine mm_iconst (v := 1) (pc' := 172) d_L_law_171 rfl (by decide) ?_
        refine mm_iadd (pc' := 173) d_L_law_172 rfl ?_
        refine wr_aldI hV hw (pc' := 174) d_L_law_173 rfl (fun x13 hw => ?_)
        refine wr_cVI (pc' := 177) (as := [.int x13]) (st := [.int x12]) d_L_law_174 rfl cs_L_22 rfl (W := fun b Q' => wp_M_open b x13 A Q') hV hw (fun b Q' hw => sd_M_open hV hw) rfl rfl (Nat.le_of_ble_eq_true rfl) (Nat.le_of_ble_eq_true rfl) (fun x14 h A hV hw => ?_)
        refine wr_icmp_eq hw (pc' := 180) d_L_law_177 rfl rfl (fun hw => ?_) (fun hw => ?_)
        · refine mm_iinc3 (v := (u3 + 5)) (pc' := 560) d_L_law_557 rfl (wr_2 _) rfl (Nat.le_of_ble_eq_true rfl) ?_
          refine mm_goto (tgt := 18) d_L_law_560 rfl ?_
          exact mm_drop (mm_le.s (mm_le.s (mm_le.s (mm_le.s mm_le.e)))) (hk18 _ _ _ _ _ _ _ hV hw)
        · refine mm_iconst (v := 0) (pc' := 181) d_L_law_180 rfl (by decide) ?_
          exact wr_iret hV d_L_law_181 rfl rfl hw
      refine wr_ite hw (fun hs hw => ?_) (fun hs2 hw => ?_)
      · rw [hs]
        refine mm_tableIn (tgt := 182) d_L_law_32 (by decide) (by decide) rfl rfl ?_
        refine wr_aload_n u1 (pc' := 183) d_L_law_182 rfl rfl rfl ?_
        refine wr_aload_n p0 (pc' := 184) d_L_law_183 rfl rfl rfl ?_
        refine mm_iload_n (pc' := 185) d_L_law_184 rfl rfl rfl ?_
        refine mm_iconst (v := 1) (pc' := 186) d_L_law_185 rfl (by decide) ?_
        refine mm_iadd (pc' := 187) d_L_law_186 rfl ?_
        refine wr_aldI hV hw (pc' := 188) d_L_law_187 rfl (fun x15 hw => ?_)
        refine wr_cVI (pc' := 191) (as := [.int x15]) (st := []) d_L_law_188 rfl cs_L_23 rfl (W := fun b Q' => wp_S_isOpen b x15 A Q') hV hw (fun b Q' hw => sd_S_isOpen hV hw) rfl rfl (Nat.le_of_ble_eq_true rfl) (Nat.le_of_ble_eq_true rfl) (fun x16 h A hV hw => ?_)
        refine wr_aload_n u2 (pc' := 192) d_L_law_191 rfl rfl rfl ?_
        refine wr_aload_n p0 (pc' := 193) d_L_law_192 rfl rfl rfl ?_
        refine mm_iload_n (pc' := 194) d_L_law_193 rfl rfl rfl ?_
        refine mm_iconst (v := 1) (pc' := 195) d_L_law_194 rfl (by decide) ?_
        refine mm_iadd (pc' := 196) d_L_law_195 rfl ?_
        refine wr_aldI hV hw (pc' := 197) d_L_law_196 rfl (fun x17 hw => ?_)
        refine wr_cVI (pc' := 200) (as := [.int x17]) (st := [.int x16]) d_L_law_197 rfl cs_L_26 rfl (W := fun b Q' => wp_M_isOpen b x17 A Q') hV hw (fun b Q' hw => sd_M_isOpen hV hw) rfl rfl (Nat.le_of_ble_eq_true rfl) (Nat.le_of_ble_eq_true rfl) (fun x18 h A hV hw => ?_)
        refine wr_icmp_eq hw (pc' := 203) d_L_law_200 rfl rfl (fun hw => ?_) (fun hw => ?_)
        · refine mm_iinc3 (v := (u3 + 5)) (pc' := 560) d_L_law_557 rfl (wr_2 _) rfl (Nat.le_of_ble_eq_true rfl) ?_
          refine mm_goto (tgt := 18) d_L_law_560 rfl ?_
          exact mm_drop (mm_le.s (mm_le.s (mm_le.s (mm_le.s mm_le.e)))) (hk18 _ _ _ _ _ _ _ hV hw)
        · refine mm_iconst (v := 0) (pc' := 204) d_L_law_203 rfl (by decide) ?_
          exact wr_iret hV d_L_law_204 rfl rfl hw
      refine wr_ite hw (fun hs hw => ?_) (fun hs3 hw => ?_)
      · rw [hs]
        refine mm_tableIn (tgt := 205) d_L_law_32 (by decide) (by decide) rfl rfl ?_
        refine wr_aload_n u1 (pc' := 206) d_L_law_205 rfl rfl rfl ?_
        refine wr_aload_n p0 (pc' := 207) d_L_law_206 rfl rfl rfl ?_
        refine mm_iload_n (pc' := 208) d_L_law_207 rfl rfl rfl ?_
        refine mm_iconst (v := 1) (pc' := 209) d_L_law_208 rfl (by decide) ?_
        refine mm_iadd (pc' := 210) d_L_law_209 rfl ?_
        refine wr_aldI hV hw (pc' := 211) d_L_law_210 rfl (fun x19 hw => ?_)
        refine wr_cVI (pc' := 214) (as := [.int x19]) (st := []) d_L_law_211 rfl cs_L_27 rfl (W := fun b Q' => wp_S_size b x19 A Q') hV hw (fun b Q' hw => sd_S_size hV hw) rfl rfl (Nat.le_of_ble_eq_true rfl) (Nat.le_of_ble_eq_true rfl) (fun x20 h A hV hw => ?_)
        refine wr_aload_n u2 (pc' := 215) d_L_law_214 rfl rfl rfl ?_
        refine wr_aload_n p0 (pc' := 216) d_L_law_215 rfl rfl rfl ?_
        refine mm_iload_n (pc' := 217) d_L_law_216 rfl rfl rfl ?_
        refine mm_iconst (v := 1) (pc' := 218) d_L_law_217 rfl (by decide) ?_
        refine mm_iadd (pc' := 219) d_L_law_218 rfl ?_
        refine wr_aldI hV hw (pc' := 220) d_L_law_219 rfl (fun x21 hw => ?_)
        refine wr_cVI (pc' := 223) (as := [.int x21]) (st := [.int x20]) d_L_law_220 rfl cs_L_31 rfl (W := fun b Q' => wp_M_size b x21 A Q') hV hw (fun b Q' hw => sd_M_size hV hw) rfl rfl (Nat.le_of_ble_eq_true rfl) (Nat.le_of_ble_eq_true rfl) (fun x22 h A hV hw => ?_)
        refine wr_icmp_eq hw (pc' := 226) d_L_law_223 rfl rfl (fun hw => ?_) (fun hw => ?_)
        · refine mm_iinc3 (v := (u3 + 5)) (pc' := 560) d_L_law_557 rfl (wr_2 _) rfl (Nat.le_of_ble_eq_true rfl) ?_
          refine mm_goto (tgt := 18) d_L_law_560 rfl ?_
          exact mm_drop (mm_le.s (mm_le.s (mm_le.s (mm_le.s mm_le.e)))) (hk18 _ _ _ _ _ _ _ hV hw)
        · refine mm_iconst (v := 0) (pc' := 227) d_L_law_226 rfl (by decide) ?_
          exact wr_iret hV d_L_law_227 rfl rfl hw
      refine wr_ite hw (fun hs hw => ?_) (fun hs4 hw => ?_)
      · rw [hs]
        refine mm_tableIn (tgt := 228) d_L_law_32 (by decide) (by decide) rfl rfl ?_
        refine wr_aload_n u1 (pc' := 229) d_L_law_228 rfl rfl rfl ?_
        refine wr_aload_n p0 (pc' := 230) d_L_law_229 rfl rfl rfl ?_
        refine mm_iload_n (pc' := 231) d_L_law_230 rfl rfl rfl ?_
        refine mm_iconst (v := 1) (pc' := 232) d_L_law_231 rfl (by decide) ?_
        refine mm_iadd (pc' := 233) d_L_law_232 rfl ?_
        refine wr_aldI hV hw (pc' := 234) d_L_law_233 rfl (fun x23 hw => ?_)
        refine wr_aload_n p0 (pc' := 235) d_L_law_234 rfl rfl rfl ?_
        refine mm_iload_n (pc' := 236) d_L_law_235 rfl rfl rfl ?_
        refine mm_iconst (v := 2) (pc' := 237) d_L_law_236 rfl (by decide) ?_
        refine mm_iadd (pc' := 238) d_L_law_237 rfl ?_
        refine wr_aldI hV hw (pc' := 239) d_L_law_238 rfl (fun x24 hw => ?_)
        refine wr_cVI (pc' := 242) (as := [.int x23, .int x24]) (st := []) d_L_law_239 rfl cs_L_32 rfl (W := fun b Q' => wp_S_at b x23 x24 A Q') hV hw (fun b Q' hw => sd_S_at hV hw) rfl rfl (Nat.le_of_ble_eq_true rfl) (Nat.le_of_ble_eq_true rfl) (fun x25 h A hV hw => ?_)
        refine wr_aload_n u2 (pc' := 243) d_L_law_242 rfl rfl rfl ?_
        refine wr_aload_n p0 (pc' := 244) d_L_law_243 rfl rfl rfl ?_
        refine mm_iload_n (pc' := 245) d_L_law_244 rfl rfl rfl ?_
        refine mm_iconst (v := 1) (pc' := 246) d_L_law_245 rfl (by decide) ?_
        refine mm_iadd (pc' := 247) d_L_law_246 rfl ?_
        refine wr_aldI hV hw (pc' := 248) d_L_law_247 rfl (fun x26 hw => ?_)
        refine wr_aload_n p0 (pc' := 249) d_L_law_248 rfl rfl rfl ?_
        refine mm_iload_n (pc' := 250) d_L_law_249 rfl rfl rfl ?_
        refine mm_iconst (v := 2) (pc' := 251) d_L_law_250 rfl (by decide) ?_
        refine mm_iadd (pc' := 252) d_L_law_251 rfl ?_
        refine wr_aldI hV hw (pc' := 253) d_L_law_252 rfl (fun x27 hw => ?_)
        refine wr_cVI (pc' := 256) (as := [.int x26, .int x27]) (st := [.int x25]) d_L_law_253 rfl cs_L_36 rfl (W := fun b Q' => wp_M_at b x26 x27 A Q') hV hw (fun b Q' hw => sd_M_at hV hw) rfl rfl (Nat.le_of_ble_eq_true rfl) (Nat.le_of_ble_eq_true rfl) (fun x28 h A hV hw => ?_)
        refine wr_icmp_eq hw (pc' := 259) d_L_law_256 rfl rfl (fun hw => ?_) (fun hw => ?_)
        · refine mm_iinc3 (v := (u3 + 5)) (pc' := 560) d_L_law_557 rfl (wr_2 _) rfl (Nat.le_of_ble_eq_true rfl) ?_
          refine mm_goto (tgt := 18) d_L_law_560 rfl ?_
          exact mm_drop (mm_le.s (mm_le.s (mm_le.s (mm_le.s mm_le.e)))) (hk18 _ _ _ _ _ _ _ hV hw)
        · refine mm_iconst (v := 0) (pc' := 260) d_L_law_259 rfl (by decide) ?_
          exact wr_iret hV d_L_law_260 rfl rfl hw
      refine wr_ite hw (fun hs hw => ?_) (fun hs5 hw => ?_)
      · rw [hs]
        refine mm_tableIn (tgt := 261) d_L_law_32 (by decide) (by decide) rfl rfl ?_
        refine wr_aload_n u1 (pc' := 262) d_L_law_261 rfl rfl rfl ?_
        refine wr_aload_n p0 (pc' := 263) d_L_law_262 rfl rfl rfl ?_
        refine mm_iload_n (pc' := 264) d_L_law_263 rfl rfl rfl ?_
        refine mm_iconst (v := 1) (pc' := 265) d_L_law_264 rfl (by decide) ?_
        refine mm_iadd (pc' := 266) d_L_law_265 rfl ?_
        refine wr_aldI hV hw (pc' := 267) d_L_law_266 rfl (fun x29 hw => ?_)
        refine wr_aload_n p0 (pc' := 268) d_L_law_267 rfl rfl rfl ?_
        refine mm_iload_n (pc' := 269) d_L_law_268 rfl rfl rfl ?_
        refine mm_iconst (v := 2) (pc' := 270) d_L_law_269 rfl (by decide) ?_
        refine mm_iadd (pc' := 271) d_L_law_270 rfl ?_
        refine wr_aldI hV hw (pc' := 272) d_L_law_271 rfl (fun x30 hw => ?_)
        refine wr_cVIx (pc' := 275) (as := [.int x29, .int x30]) (st := []) d_L_law_272 rfl cs_L_37 rfl (W := fun b c s Q' => wp_S_type b x29 x30 A c s Q') hV hw (fun b c s Q' hw => sd_S_type hV hw) rfl rfl (Nat.le_of_ble_eq_true rfl) (Nat.le_of_ble_eq_true rfl) (fun x31 h A kc ks hV hw => ?_)
        refine wr_aload_n u2 (pc' := 276) d_L_law_275 rfl rfl rfl ?_
        refine wr_aload_n p0 (pc' := 277) d_L_law_276 rfl rfl rfl ?_
        refine mm_iload_n (pc' := 278) d_L_law_277 rfl rfl rfl ?_
        refine mm_iconst (v := 1) (pc' := 279) d_L_law_278 rfl (by decide) ?_
        refine mm_iadd (pc' := 280) d_L_law_279 rfl ?_
        refine wr_aldI hV hw (pc' := 281) d_L_law_280 rfl (fun x32 hw => ?_)
        refine wr_aload_n p0 (pc' := 282) d_L_law_281 rfl rfl rfl ?_
        refine mm_iload_n (pc' := 283) d_L_law_282 rfl rfl rfl ?_
        refine mm_iconst (v := 2) (pc' := 284) d_L_law_283 rfl (by decide) ?_
        refine mm_iadd (pc' := 285) d_L_law_284 rfl ?_
        refine wr_aldI hV hw (pc' := 286) d_L_law_285 rfl (fun x33 hw => ?_)
        refine wr_cVI (pc' := 289) (as := [.int x32, .int x33]) (st := [.int x31]) d_L_law_286 rfl cs_L_41 rfl (W := fun b Q' => wp_M_type b x32 x33 A Q') hV hw (fun b Q' hw => sd_M_type hV hw) rfl rfl (Nat.le_of_ble_eq_true rfl) (Nat.le_of_ble_eq_true rfl) (fun x34 h A hV hw => ?_)
        refine wr_icmp_eq hw (pc' := 292) d_L_law_289 rfl rfl (fun hw => ?_) (fun hw => ?_)
        · refine mm_iinc3 (v := (u3 + 5)) (pc' := 560) d_L_law_557 rfl (wr_2 _) rfl (Nat.le_of_ble_eq_true rfl) ?_
          refine mm_goto (tgt := 18) d_L_law_560 rfl ?_
          exact mm_drop (mm_le.s (mm_le.s (mm_le.s (mm_le.s mm_le.e)))) (hk18 _ _ _ _ _ _ _ hV hw)
        · refine mm_iconst (v := 0) (pc' := 293) d_L_law_292 rfl (by decide) ?_
          exact wr_iret hV d_L_law_293 rfl rfl hw
      refine wr_ite hw (fun hs hw => ?_) (fun hs6 hw => ?_)
      · rw [hs]
        refine mm_tableIn (tgt := 294) d_L_law_32 (by decide) (by decide) rfl rfl ?_
        refine wr_aload_n u1 (pc' := 295) d_L_law_294 rfl rfl rfl ?_
        refine wr_aload_n p0 (pc' := 296) d_L_law_295 rfl rfl rfl ?_
        refine mm_iload_n (pc' := 297) d_L_law_296 rfl rfl rfl ?_
        refine mm_iconst (v := 1) (pc' := 298) d_L_law_297 rfl (by decide) ?_
        refine mm_iadd (pc' := 299) d_L_law_298 rfl ?_
        refine wr_aldI hV hw (pc' := 300) d_L_law_299 rfl (fun x35 hw => ?_)
        refine wr_aload_n p0 (pc' := 301) d_L_law_300 rfl rfl rfl ?_
        refine mm_iload_n (pc' := 302) d_L_law_301 rfl rfl rfl ?_
        refine mm_iconst (v := 2) (pc' := 303) d_L_law_302 rfl (by decide) ?_
        refine mm_iadd (pc' := 304) d_L_law_303 rfl ?_
        refine wr_aldI hV hw (pc' := 305) d_L_law_304 rfl (fun x36 hw => ?_)
        refine wr_cVIx (pc' := 308) (as := [.int x35, .int x36]) (st := []) d_L_law_305 rfl cs_L_42 rfl (W := fun b c s Q' => wp_S_match b x35 x36 A c s Q') hV hw (fun b c s Q' hw => sd_S_match hV hw) rfl rfl (Nat.le_of_ble_eq_true rfl) (Nat.le_of_ble_eq_true rfl) (fun x37 h A kc ks hV hw => ?_)
        refine wr_aload_n u2 (pc' := 309) d_L_law_308 rfl rfl rfl ?_
        refine wr_aload_n p0 (pc' := 310) d_L_law_309 rfl rfl rfl ?_
        refine mm_iload_n (pc' := 311) d_L_law_310 rfl rfl rfl ?_
        refine mm_iconst (v := 1) (pc' := 312) d_L_law_311 rfl (by decide) ?_
        refine mm_iadd (pc' := 313) d_L_law_312 rfl ?_
        refine wr_aldI hV hw (pc' := 314) d_L_law_313 rfl (fun x38 hw => ?_)
        refine wr_aload_n p0 (pc' := 315) d_L_law_314 rfl rfl rfl ?_
        refine mm_iload_n (pc' := 316) d_L_law_315 rfl rfl rfl ?_
        refine mm_iconst (v := 2) (pc' := 317) d_L_law_316 rfl (by decide) ?_
        refine mm_iadd (pc' := 318) d_L_law_317 rfl ?_
        refine wr_aldI hV hw (pc' := 319) d_L_law_318 rfl (fun x39 hw => ?_)
        refine wr_cVI (pc' := 322) (as := [.int x38, .int x39]) (st := [.int x37]) d_L_law_319 rfl cs_L_45 rfl (W := fun b Q' => wp_M_match b x38 x39 A Q') hV hw (fun b Q' hw => sd_M_match hV hw) rfl rfl (Nat.le_of_ble_eq_true rfl) (Nat.le_of_ble_eq_true rfl) (fun x40 h A hV hw => ?_)
        refine wr_icmp_eq hw (pc' := 325) d_L_law_322 rfl rfl (fun hw => ?_) (fun hw => ?_)
        · refine mm_iinc3 (v := (u3 + 5)) (pc' := 560) d_L_law_557 rfl (wr_2 _) rfl (Nat.le_of_ble_eq_true rfl) ?_
          refine mm_goto (tgt := 18) d_L_law_560 rfl ?_
          exact mm_drop (mm_le.s (mm_le.s (mm_le.s (mm_le.s mm_le.e)))) (hk18 _ _ _ _ _ _ _ hV hw)
        · refine mm_iconst (v := 0) (pc' := 326) d_L_law_325 rfl (by decide) ?_
          exact wr_iret hV d_L_law_326 rfl rfl hw
      refine wr_ite hw (fun hs hw => ?_) (fun hs7 hw => ?_)
      · rw [hs]
        refine mm_tableIn (tgt := 327) d_L_law_32 (by decide) (by decide) rfl rfl ?_
        refine wr_aload_n u1 (pc' := 328) d_L_law_327 rfl rfl rfl ?_
        refine wr_aload_n p0 (pc' := 329) d_L_law_328 rfl rfl rfl ?_
        refine mm_iload_n (pc' := 330) d_L_law_329 rfl rfl rfl ?_
        refine mm_iconst (v := 1) (pc' := 331) d_L_law_330 rfl (by decide) ?_
        refine mm_iadd (pc' := 332) d_L_law_331 rfl ?_
        refine wr_aldI hV hw (pc' := 333) d_L_law_332 rfl (fun x41 hw => ?_)
        refine wr_aload_n p0 (pc' := 334) d_L_law_333 rfl rfl rfl ?_
        refine mm_iload_n (pc' := 335) d_L_law_334 rfl rfl rfl ?_
        refine mm_iconst (v := 2) (pc' := 336) d_L_law_335 rfl (by decide) ?_
        refine mm_iadd (pc' := 337) d_L_law_336 rfl ?_
        refine wr_aldI hV hw (pc' := 338) d_L_law_337 rfl (fun x42 hw => ?_)
        refine wr_cVIx (pc' := 341) (as := [.int x41, .int x42]) (st := []) d_L_law_338 rfl cs_L_46 rfl (W := fun b c s Q' => wp_S_stub b x41 x42 A c s Q') hV hw (fun b c s Q' hw => sd_S_stub hV hw) rfl rfl (Nat.le_of_ble_eq_true rfl) (Nat.le_of_ble_eq_true rfl) (fun x43 h A kc ks hV hw => ?_)
        refine wr_aload_n u2 (pc' := 342) d_L_law_341 rfl rfl rfl ?_
        refine wr_aload_n p0 (pc' := 343) d_L_law_342 rfl rfl rfl ?_
        refine mm_iload_n (pc' := 344) d_L_law_343 rfl rfl rfl ?_
        refine mm_iconst (v := 1) (pc' := 345) d_L_law_344 rfl (by decide) ?_
        refine mm_iadd (pc' := 346) d_L_law_345 rfl ?_
        refine wr_aldI hV hw (pc' := 347) d_L_law_346 rfl (fun x44 hw => ?_)
        refine wr_aload_n p0 (pc' := 348) d_L_law_347 rfl rfl rfl ?_
        refine mm_iload_n (pc' := 349) d_L_law_348 rfl rfl rfl ?_
        refine mm_iconst (v := 2) (pc' := 350) d_L_law_349 rfl (by decide) ?_
        refine mm_iadd (pc' := 351) d_L_law_350 rfl ?_
        refine wr_aldI hV hw (pc' := 352) d_L_law_351 rfl (fun x45 hw => ?_)
        refine wr_cVI (pc' := 355) (as := [.int x44, .int x45]) (st := [.int x43]) d_L_law_352 rfl cs_L_49 rfl (W := fun b Q' => wp_M_stub b x44 x45 A Q') hV hw (fun b Q' hw => sd_M_stub hV hw) rfl rfl (Nat.le_of_ble_eq_true rfl) (Nat.le_of_ble_eq_true rfl) (fun x46 h A hV hw => ?_)
        refine wr_icmp_eq hw (pc' := 358) d_L_law_355 rfl rfl (fun hw => ?_) (fun hw => ?_)
        · refine mm_iinc3 (v := (u3 + 5)) (pc' := 560) d_L_law_557 rfl (wr_2 _) rfl (Nat.le_of_ble_eq_true rfl) ?_
          refine mm_goto (tgt := 18) d_L_law_560 rfl ?_
          exact mm_drop (mm_le.s (mm_le.s (mm_le.s (mm_le.s mm_le.e)))) (hk18 _ _ _ _ _ _ _ hV hw)
        · refine mm_iconst (v := 0) (pc' := 359) d_L_law_358 rfl (by decide) ?_
          exact wr_iret hV d_L_law_359 rfl rfl hw
      refine wr_ite hw (fun hs hw => ?_) (fun hs8 hw => ?_)
      · rw [hs]
        refine mm_tableIn (tgt := 360) d_L_law_32 (by decide) (by decide) rfl rfl ?_
        refine wr_aload_n u1 (pc' := 361) d_L_law_360 rfl rfl rfl ?_
        refine wr_aload_n p0 (pc' := 362) d_L_law_361 rfl rfl rfl ?_
        refine mm_iload_n (pc' := 363) d_L_law_362 rfl rfl rfl ?_
        refine mm_iconst (v := 1) (pc' := 364) d_L_law_363 rfl (by decide) ?_
        refine mm_iadd (pc' := 365) d_L_law_364 rfl ?_
        refine wr_aldI hV hw (pc' := 366) d_L_law_365 rfl (fun x47 hw => ?_)
        refine wr_aload_n p0 (pc' := 367) d_L_law_366 rfl rfl rfl ?_
        refine mm_iload_n (pc' := 368) d_L_law_367 rfl rfl rfl ?_
        refine mm_iconst (v := 2) (pc' := 369) d_L_law_368 rfl (by decide) ?_
        refine mm_iadd (pc' := 370) d_L_law_369 rfl ?_
        refine wr_aldI hV hw (pc' := 371) d_L_law_370 rfl (fun x48 hw => ?_)
        refine wr_aload_n p0 (pc' := 372) d_L_law_371 rfl rfl rfl ?_
        refine mm_iload_n (pc' := 373) d_L_law_372 rfl rfl rfl ?_
        refine mm_iconst (v := 3) (pc' := 374) d_L_law_373 rfl (by decide) ?_
        refine mm_iadd (pc' := 375) d_L_law_374 rfl ?_
        refine wr_aldI hV hw (pc' := 376) d_L_law_375 rfl (fun x49 hw => ?_)
        refine wr_aload_n p0 (pc' := 377) d_L_law_376 rfl rfl rfl ?_
        refine mm_iload_n (pc' := 378) d_L_law_377 rfl rfl rfl ?_
        refine mm_iconst (v := 4) (pc' := 379) d_L_law_378 rfl (by decide) ?_
        refine mm_iadd (pc' := 380) d_L_law_379 rfl ?_
        refine wr_aldI hV hw (pc' := 381) d_L_law_380 rfl (fun x50 hw => ?_)
        refine wr_cVIx (pc' := 384) (as := [.int x47, .int x48, .int x49, .int x50]) (st := []) d_L_law_381 rfl cs_L_50 rfl (W := fun b c s Q' => wp_S_scene b x47 x48 x49 x50 A c s Q') hV hw (fun b c s Q' hw => sd_S_scene hV hw) rfl rfl (Nat.le_of_ble_eq_true rfl) (Nat.le_of_ble_eq_true rfl) (fun x51 h A kc ks hV hw => ?_)
        refine wr_aload_n u2 (pc' := 385) d_L_law_384 rfl rfl rfl ?_
        refine wr_aload_n p0 (pc' := 386) d_L_law_385 rfl rfl rfl ?_
        refine mm_iload_n (pc' := 387) d_L_law_386 rfl rfl rfl ?_
        refine mm_iconst (v := 1) (pc' := 388) d_L_law_387 rfl (by decide) ?_
        refine mm_iadd (pc' := 389) d_L_law_388 rfl ?_
        refine wr_aldI hV hw (pc' := 390) d_L_law_389 rfl (fun x52 hw => ?_)
        refine wr_aload_n p0 (pc' := 391) d_L_law_390 rfl rfl rfl ?_
        refine mm_iload_n (pc' := 392) d_L_law_391 rfl rfl rfl ?_
        refine mm_iconst (v := 2) (pc' := 393) d_L_law_392 rfl (by decide) ?_
        refine mm_iadd (pc' := 394) d_L_law_393 rfl ?_
        refine wr_aldI hV hw (pc' := 395) d_L_law_394 rfl (fun x53 hw => ?_)
        refine wr_aload_n p0 (pc' := 396) d_L_law_395 rfl rfl rfl ?_
        refine mm_iload_n (pc' := 397) d_L_law_396 rfl rfl rfl ?_
        refine mm_iconst (v := 3) (pc' := 398) d_L_law_397 rfl (by decide) ?_
        refine mm_iadd (pc' := 399) d_L_law_398 rfl ?_
        refine wr_aldI hV hw (pc' := 400) d_L_law_399 rfl (fun x54 hw => ?_)
        refine wr_aload_n p0 (pc' := 401) d_L_law_400 rfl rfl rfl ?_
        refine mm_iload_n (pc' := 402) d_L_law_401 rfl rfl rfl ?_
        refine mm_iconst (v := 4) (pc' := 403) d_L_law_402 rfl (by decide) ?_
        refine mm_iadd (pc' := 404) d_L_law_403 rfl ?_
        refine wr_aldI hV hw (pc' := 405) d_L_law_404 rfl (fun x55 hw => ?_)
        refine wr_cVI (pc' := 408) (as := [.int x52, .int x53, .int x54, .int x55]) (st := [.int x51]) d_L_law_405 rfl cs_L_54 rfl (W := fun b Q' => wp_M_scene b x52 x53 x54 x55 A Q') hV hw (fun b Q' hw => sd_M_scene hV hw) rfl rfl (Nat.le_of_ble_eq_true rfl) (Nat.le_of_ble_eq_true rfl) (fun x56 h A hV hw => ?_)
        refine wr_icmp_eq hw (pc' := 411) d_L_law_408 rfl rfl (fun hw => ?_) (fun hw => ?_)
        · refine mm_iinc3 (v := (u3 + 5)) (pc' := 560) d_L_law_557 rfl (wr_2 _) rfl (Nat.le_of_ble_eq_true rfl) ?_
          refine mm_goto (tgt := 18) d_L_law_560 rfl ?_
          exact mm_drop (mm_le.s (mm_le.s (mm_le.s (mm_le.s mm_le.e)))) (hk18 _ _ _ _ _ _ _ hV hw)
        · refine mm_iconst (v := 0) (pc' := 412) d_L_law_411 rfl (by decide) ?_
          exact wr_iret hV d_L_law_412 rfl rfl hw
      refine wr_ite hw (fun hs hw => ?_) (fun hs9 hw => ?_)
      · rw [hs]
        refine mm_tableIn (tgt := 413) d_L_law_32 (by decide) (by decide) rfl rfl ?_
        refine wr_aload_n u1 (pc' := 414) d_L_law_413 rfl rfl rfl ?_
        refine wr_aload_n p0 (pc' := 415) d_L_law_414 rfl rfl rfl ?_
        refine mm_iload_n (pc' := 416) d_L_law_415 rfl rfl rfl ?_
        refine mm_iconst (v := 1) (pc' := 417) d_L_law_416 rfl (by decide) ?_
        refine mm_iadd (pc' := 418) d_L_law_417 rfl ?_
        refine wr_aldI hV hw (pc' := 419) d_L_law_418 rfl (fun x57 hw => ?_)
        refine wr_cVI (pc' := 422) (as := [.int x57]) (st := []) d_L_law_419 rfl cs_L_55 rfl (W := fun b Q' => wp_S_remove b x57 A Q') hV hw (fun b Q' hw => sd_S_remove hV hw) rfl rfl (Nat.le_of_ble_eq_true rfl) (Nat.le_of_ble_eq_true rfl) (fun x58 h A hV hw => ?_)
        refine wr_aload_n u2 (pc' := 423) d_L_law_422 rfl rfl rfl ?_
        refine wr_aload_n p0 (pc' := 424) d_L_law_423 rfl rfl rfl ?_
        refine mm_iload_n (pc' := 425) d_L_law_424 rfl rfl rfl ?_
        refine mm_iconst (v := 1) (pc' := 426) d_L_law_425 rfl (by decide) ?_
        refine mm_iadd (pc' := 427) d_L_law_426 rfl ?_
        refine wr_aldI hV hw (pc' := 428) d_L_law_427 rfl (fun x59 hw => ?_)
        refine wr_cVI (pc' := 431) (as := [.int x59]) (st := [.int x58]) d_L_law_428 rfl cs_L_58 rfl (W := fun b Q' => wp_M_remove b x59 A Q') hV hw (fun b Q' hw => sd_M_remove hV hw) rfl rfl (Nat.le_of_ble_eq_true rfl) (Nat.le_of_ble_eq_true rfl) (fun x60 h A hV hw => ?_)
        refine wr_icmp_eq hw (pc' := 434) d_L_law_431 rfl rfl (fun hw => ?_) (fun hw => ?_)
        · refine mm_iinc3 (v := (u3 + 5)) (pc' := 560) d_L_law_557 rfl (wr_2 _) rfl (Nat.le_of_ble_eq_true rfl) ?_
          refine mm_goto (tgt := 18) d_L_law_560 rfl ?_
          exact mm_drop (mm_le.s (mm_le.s (mm_le.s (mm_le.s mm_le.e)))) (hk18 _ _ _ _ _ _ _ hV hw)
        · refine mm_iconst (v := 0) (pc' := 435) d_L_law_434 rfl (by decide) ?_
          exact wr_iret hV d_L_law_435 rfl rfl hw
      refine wr_ite hw (fun hs hw => ?_) (fun hs10 hw => ?_)
      · rw [hs]
        refine mm_tableIn (tgt := 436) d_L_law_32 (by decide) (by decide) rfl rfl ?_
        refine wr_aload_n u1 (pc' := 437) d_L_law_436 rfl rfl rfl ?_
        refine wr_cVI (pc' := 440) (as := []) (st := []) d_L_law_437 rfl cs_L_59 rfl (W := fun b Q' => wp_S_reset b  A Q') hV hw (fun b Q' hw => sd_S_reset hV hw) rfl rfl (Nat.le_of_ble_eq_true rfl) (Nat.le_of_ble_eq_true rfl) (fun x61 h A hV hw => ?_)
        refine wr_aload_n u2 (pc' := 441) d_L_law_440 rfl rfl rfl ?_
        refine wr_cVI (pc' := 444) (as := []) (st := [.int x61]) d_L_law_441 rfl cs_L_63 rfl (W := fun b Q' => wp_M_reset b  A Q') hV hw (fun b Q' hw => sd_M_reset hV hw) rfl rfl (Nat.le_of_ble_eq_true rfl) (Nat.le_of_ble_eq_true rfl) (fun x62 h A hV hw => ?_)
        refine wr_icmp_eq hw (pc' := 447) d_L_law_444 rfl rfl (fun hw => ?_) (fun hw => ?_)
        · refine mm_iinc3 (v := (u3 + 5)) (pc' := 560) d_L_law_557 rfl (wr_2 _) rfl (Nat.le_of_ble_eq_true rfl) ?_
          refine mm_goto (tgt := 18) d_L_law_560 rfl ?_
          exact mm_drop (mm_le.s (mm_le.s (mm_le.s (mm_le.s mm_le.e)))) (hk18 _ _ _ _ _ _ _ hV hw)
        · refine mm_iconst (v := 0) (pc' := 448) d_L_law_447 rfl (by decide) ?_
          exact wr_iret hV d_L_law_448 rfl rfl hw
      refine wr_ite hw (fun hs hw => ?_) (fun hs11 hw => ?_)
      · rw [hs]
        refine mm_tableIn (tgt := 449) d_L_law_32 (by decide) (by decide) rfl rfl ?_
        refine wr_aload_n u1 (pc' := 450) d_L_law_449 rfl rfl rfl ?_
        refine wr_cVI (pc' := 453) (as := []) (st := []) d_L_law_450 rfl cs_L_64 rfl (W := fun b Q' => wp_S_count b  A Q') hV hw (fun b Q' hw => sd_S_count hV hw) rfl rfl (Nat.le_of_ble_eq_true rfl) (Nat.le_of_ble_eq_true rfl) (fun x63 h A hV hw => ?_)
        refine wr_aload_n u2 (pc' := 454) d_L_law_453 rfl rfl rfl ?_
        refine wr_cVI (pc' := 457) (as := []) (st := [.int x63]) d_L_law_454 rfl cs_L_67 rfl (W := fun b Q' => wp_M_count b  A Q') hV hw (fun b Q' hw => sd_M_count hV hw) rfl rfl (Nat.le_of_ble_eq_true rfl) (Nat.le_of_ble_eq_true rfl) (fun x64 h A hV hw => ?_)
        refine wr_icmp_eq hw (pc' := 460) d_L_law_457 rfl rfl (fun hw => ?_) (fun hw => ?_)
        · refine mm_iinc3 (v := (u3 + 5)) (pc' := 560) d_L_law_557 rfl (wr_2 _) rfl (Nat.le_of_ble_eq_true rfl) ?_
          refine mm_goto (tgt := 18) d_L_law_560 rfl ?_
          exact mm_drop (mm_le.s (mm_le.s (mm_le.s (mm_le.s mm_le.e)))) (hk18 _ _ _ _ _ _ _ hV hw)
        · refine mm_iconst (v := 0) (pc' := 461) d_L_law_460 rfl (by decide) ?_
          exact wr_iret hV d_L_law_461 rfl rfl hw
      refine wr_ite hw (fun hs hw => ?_) (fun hs12 hw => ?_)
      · rw [hs]
        refine mm_tableIn (tgt := 462) d_L_law_32 (by decide) (by decide) rfl rfl ?_
        refine wr_aload_n u1 (pc' := 463) d_L_law_462 rfl rfl rfl ?_
        refine wr_cVI (pc' := 466) (as := []) (st := []) d_L_law_463 rfl cs_L_68 rfl (W := fun b Q' => wp_S_journal b  A Q') hV hw (fun b Q' hw => sd_S_journal hV hw) rfl rfl (Nat.le_of_ble_eq_true rfl) (Nat.le_of_ble_eq_true rfl) (fun x65 h A hV hw => ?_)
        refine wr_aload_n u2 (pc' := 467) d_L_law_466 rfl rfl rfl ?_
        refine wr_cVI (pc' := 470) (as := []) (st := [.int x65]) d_L_law_467 rfl cs_L_71 rfl (W := fun b Q' => wp_M_journal b  A Q') hV hw (fun b Q' hw => sd_M_journal hV hw) rfl rfl (Nat.le_of_ble_eq_true rfl) (Nat.le_of_ble_eq_true rfl) (fun x66 h A hV hw => ?_)
        refine wr_icmp_eq hw (pc' := 473) d_L_law_470 rfl rfl (fun hw => ?_) (fun hw => ?_)
        · refine mm_iinc3 (v := (u3 + 5)) (pc' := 560) d_L_law_557 rfl (wr_2 _) rfl (Nat.le_of_ble_eq_true rfl) ?_
          refine mm_goto (tgt := 18) d_L_law_560 rfl ?_
          exact mm_drop (mm_le.s (mm_le.s (mm_le.s (mm_le.s mm_le.e)))) (hk18 _ _ _ _ _ _ _ hV hw)
        · refine mm_iconst (v := 0) (pc' := 474) d_L_law_473 rfl (by decide) ?_
          exact wr_iret hV d_L_law_474 rfl rfl hw
      refine wr_ite hw (fun hs hw => ?_) (fun hs13 hw => ?_)
      · rw [hs]
        refine mm_tableIn (tgt := 475) d_L_law_32 (by decide) (by decide) rfl rfl ?_
        refine wr_aload_n u1 (pc' := 476) d_L_law_475 rfl rfl rfl ?_
        refine wr_aload_n p0 (pc' := 477) d_L_law_476 rfl rfl rfl ?_
        refine mm_iload_n (pc' := 478) d_L_law_477 rfl rfl rfl ?_
        refine mm_iconst (v := 1) (pc' := 479) d_L_law_478 rfl (by decide) ?_
        refine mm_iadd (pc' := 480) d_L_law_479 rfl ?_
        refine wr_aldI hV hw (pc' := 481) d_L_law_480 rfl (fun x67 hw => ?_)
        refine wr_cVI (pc' := 484) (as := [.int x67]) (st := []) d_L_law_481 rfl cs_L_72 rfl (W := fun b Q' => wp_S_chosen b x67 A Q') hV hw (fun b Q' hw => sd_S_chosen hV hw) rfl rfl (Nat.le_of_ble_eq_true rfl) (Nat.le_of_ble_eq_true rfl) (fun x68 h A hV hw => ?_)
        refine wr_aload_n u2 (pc' := 485) d_L_law_484 rfl rfl rfl ?_
        refine wr_aload_n p0 (pc' := 486) d_L_law_485 rfl rfl rfl ?_
        refine mm_iload_n (pc' := 487) d_L_law_486 rfl rfl rfl ?_
        refine mm_iconst (v := 1) (pc' := 488) d_L_law_487 rfl (by decide) ?_
        refine mm_iadd (pc' := 489) d_L_law_488 rfl ?_
        refine wr_aldI hV hw (pc' := 490) d_L_law_489 rfl (fun x69 hw => ?_)
        refine wr_cVI (pc' := 493) (as := [.int x69]) (st := [.int x68]) d_L_law_490 rfl cs_L_75 rfl (W := fun b Q' => wp_M_chosen b x69 A Q') hV hw (fun b Q' hw => sd_M_chosen hV hw) rfl rfl (Nat.le_of_ble_eq_true rfl) (Nat.le_of_ble_eq_true rfl) (fun x70 h A hV hw => ?_)
        refine wr_icmp_eq hw (pc' := 496) d_L_law_493 rfl rfl (fun hw => ?_) (fun hw => ?_)
        · refine mm_iinc3 (v := (u3 + 5)) (pc' := 560) d_L_law_557 rfl (wr_2 _) rfl (Nat.le_of_ble_eq_true rfl) ?_
          refine mm_goto (tgt := 18) d_L_law_560 rfl ?_
          exact mm_drop (mm_le.s (mm_le.s (mm_le.s (mm_le.s mm_le.e)))) (hk18 _ _ _ _ _ _ _ hV hw)
        · refine mm_iconst (v := 0) (pc' := 497) d_L_law_496 rfl (by decide) ?_
          exact wr_iret hV d_L_law_497 rfl rfl hw
      refine wr_ite hw (fun hs hw => ?_) (fun hs14 hw => ?_)
      · rw [hs]
        refine mm_tableIn (tgt := 498) d_L_law_32 (by decide) (by decide) rfl rfl ?_
        refine wr_aload_n u1 (pc' := 499) d_L_law_498 rfl rfl rfl ?_
        refine wr_aload_n p0 (pc' := 500) d_L_law_499 rfl rfl rfl ?_
        refine mm_iload_n (pc' := 501) d_L_law_500 rfl rfl rfl ?_
        refine mm_iconst (v := 1) (pc' := 502) d_L_law_501 rfl (by decide) ?_
        refine mm_iadd (pc' := 503) d_L_law_502 rfl ?_
        refine wr_aldI hV hw (pc' := 504) d_L_law_503 rfl (fun x71 hw => ?_)
        refine wr_cVI (pc' := 507) (as := [.int x71]) (st := []) d_L_law_504 rfl cs_L_76 rfl (W := fun b Q' => wp_S_near b x71 A Q') hV hw (fun b Q' hw => sd_S_near hV hw) rfl rfl (Nat.le_of_ble_eq_true rfl) (Nat.le_of_ble_eq_true rfl) (fun x72 h A hV hw => ?_)
        refine wr_aload_n u2 (pc' := 508) d_L_law_507 rfl rfl rfl ?_
        refine wr_aload_n p0 (pc' := 509) d_L_law_508 rfl rfl rfl ?_
        refine mm_iload_n (pc' := 510) d_L_law_509 rfl rfl rfl ?_
        refine mm_iconst (v := 1) (pc' := 511) d_L_law_510 rfl (by decide) ?_
        refine mm_iadd (pc' := 512) d_L_law_511 rfl ?_
        refine wr_aldI hV hw (pc' := 513) d_L_law_512 rfl (fun x73 hw => ?_)
        refine wr_cVI (pc' := 516) (as := [.int x73]) (st := [.int x72]) d_L_law_513 rfl cs_L_79 rfl (W := fun b Q' => wp_M_near b x73 A Q') hV hw (fun b Q' hw => sd_M_near hV hw) rfl rfl (Nat.le_of_ble_eq_true rfl) (Nat.le_of_ble_eq_true rfl) (fun x74 h A hV hw => ?_)
        refine wr_icmp_eq hw (pc' := 519) d_L_law_516 rfl rfl (fun hw => ?_) (fun hw => ?_)
        · refine mm_iinc3 (v := (u3 + 5)) (pc' := 560) d_L_law_557 rfl (wr_2 _) rfl (Nat.le_of_ble_eq_true rfl) ?_
          refine mm_goto (tgt := 18) d_L_law_560 rfl ?_
          exact mm_drop (mm_le.s (mm_le.s (mm_le.s (mm_le.s mm_le.e)))) (hk18 _ _ _ _ _ _ _ hV hw)
        · refine mm_iconst (v := 0) (pc' := 520) d_L_law_519 rfl (by decide) ?_
          exact wr_iret hV d_L_law_520 rfl rfl hw
      refine wr_ite hw (fun hs hw => ?_) (fun hs15 hw => ?_)
      · rw [hs]
        refine mm_tableIn (tgt := 521) d_L_law_32 (by decide) (by decide) rfl rfl ?_
        refine wr_aload_n u1 (pc' := 522) d_L_law_521 rfl rfl rfl ?_
        refine wr_aload_n p0 (pc' := 523) d_L_law_522 rfl rfl rfl ?_
        refine mm_iload_n (pc' := 524) d_L_law_523 rfl rfl rfl ?_
        refine mm_iconst (v := 1) (pc' := 525) d_L_law_524 rfl (by decide) ?_
        refine mm_iadd (pc' := 526) d_L_law_525 rfl ?_
        refine wr_aldI hV hw (pc' := 527) d_L_law_526 rfl (fun x75 hw => ?_)
        refine wr_cVI (pc' := 530) (as := [.int x75]) (st := []) d_L_law_527 rfl cs_L_80 rfl (W := fun b Q' => wp_S_state b x75 A Q') hV hw (fun b Q' hw => sd_S_state hV hw) rfl rfl (Nat.le_of_ble_eq_true rfl) (Nat.le_of_ble_eq_true rfl) (fun x76 h A hV hw => ?_)
        refine wr_aload_n u2 (pc' := 531) d_L_law_530 rfl rfl rfl ?_
        refine wr_aload_n p0 (pc' := 532) d_L_law_531 rfl rfl rfl ?_
        refine mm_iload_n (pc' := 533) d_L_law_532 rfl rfl rfl ?_
        refine mm_iconst (v := 1) (pc' := 534) d_L_law_533 rfl (by decide) ?_
        refine mm_iadd (pc' := 535) d_L_law_534 rfl ?_
        refine wr_aldI hV hw (pc' := 536) d_L_law_535 rfl (fun x77 hw => ?_)
        refine wr_cVI (pc' := 539) (as := [.int x77]) (st := [.int x76]) d_L_law_536 rfl cs_L_83 rfl (W := fun b Q' => wp_M_state b x77 A Q') hV hw (fun b Q' hw => sd_M_state hV hw) rfl rfl (Nat.le_of_ble_eq_true rfl) (Nat.le_of_ble_eq_true rfl) (fun x78 h A hV hw => ?_)
        refine wr_icmp_eq hw (pc' := 542) d_L_law_539 rfl rfl (fun hw => ?_) (fun hw => ?_)
        · refine mm_iinc3 (v := (u3 + 5)) (pc' := 560) d_L_law_557 rfl (wr_2 _) rfl (Nat.le_of_ble_eq_true rfl) ?_
          refine mm_goto (tgt := 18) d_L_law_560 rfl ?_
          exact mm_drop (mm_le.s (mm_le.s (mm_le.s (mm_le.s mm_le.e)))) (hk18 _ _ _ _ _ _ _ hV hw)
        · refine mm_iconst (v := 0) (pc' := 543) d_L_law_542 rfl (by decide) ?_
          exact wr_iret hV d_L_law_543 rfl rfl hw
      refine wr_ite hw (fun hs hw => ?_) (fun hs16 hw => ?_)
      · rw [hs]
        refine mm_tableIn (tgt := 544) d_L_law_32 (by decide) (by decide) rfl rfl ?_
        refine wr_aload_n u1 (pc' := 545) d_L_law_544 rfl rfl rfl ?_
        refine wr_cVI (pc' := 548) (as := []) (st := []) d_L_law_545 rfl cs_L_84 rfl (W := fun b Q' => wp_S_served b  A Q') hV hw (fun b Q' hw => sd_S_served hV hw) rfl rfl (Nat.le_of_ble_eq_true rfl) (Nat.le_of_ble_eq_true rfl) (fun x79 h A hV hw => ?_)
        refine wr_aload_n u2 (pc' := 549) d_L_law_548 rfl rfl rfl ?_
        refine wr_cVI (pc' := 552) (as := []) (st := [.int x79]) d_L_law_549 rfl cs_L_87 rfl (W := fun b Q' => wp_M_served b  A Q') hV hw (fun b Q' hw => sd_M_served hV hw) rfl rfl (Nat.le_of_ble_eq_true rfl) (Nat.le_of_ble_eq_true rfl) (fun x80 h A hV hw => ?_)
        refine wr_icmp_eq hw (pc' := 555) d_L_law_552 rfl rfl (fun hw => ?_) (fun hw => ?_)
        · refine mm_iinc3 (v := (u3 + 5)) (pc' := 560) d_L_law_557 rfl (wr_2 _) rfl (Nat.le_of_ble_eq_true rfl) ?_
          refine mm_goto (tgt := 18) d_L_law_560 rfl ?_
          exact mm_drop (mm_le.s (mm_le.s (mm_le.s (mm_le.s mm_le.e)))) (hk18 _ _ _ _ _ _ _ hV hw)
        · refine mm_iconst (v := 0) (pc' := 556) d_L_law_555 rfl (by decide) ?_
          exact wr_iret hV d_L_law_556 rfl rfl hw
      have ht0 := wr_toInt hs0
      have ht1 := wr_toInt hs1
      have ht2 := wr_toInt hs2
      have ht3 := wr_toInt hs3
      have ht4 := wr_toInt hs4
      have ht5 := wr_toInt hs5
      have ht6 := wr_toInt hs6
      have ht7 := wr_toInt hs7
      have ht8 := wr_toInt hs8
      have ht9 := wr_toInt hs9
      have ht10 := wr_toInt hs10
      have ht11 := wr_toInt hs11
      have ht12 := wr_toInt hs12
      have ht13 := wr_toInt hs13
      have ht14 := wr_toInt hs14
      have ht15 := wr_toInt hs15
      have ht16 := wr_toInt hs16
      rw [show (0 : Int32).toInt = 0 from rfl] at ht0
      rw [show (1 : Int32).toInt = 1 from rfl] at ht1
      rw [show (2 : Int32).toInt = 2 from rfl] at ht2
      rw [show (3 : Int32).toInt = 3 from rfl] at ht3
      rw [show (4 : Int32).toInt = 4 from rfl] at ht4
      rw [show (5 : Int32).toInt = 5 from rfl] at ht5
      rw [show (6 : Int32).toInt = 6 from rfl] at ht6
      rw [show (7 : Int32).toInt = 7 from rfl] at ht7
      rw [show (8 : Int32).toInt = 8 from rfl] at ht8
      rw [show (9 : Int32).toInt = 9 from rfl] at ht9
      rw [show (10 : Int32).toInt = 10 from rfl] at ht10
      rw [show (11 : Int32).toInt = 11 from rfl] at ht11
      rw [show (12 : Int32).toInt = 12 from rfl] at ht12
      rw [show (13 : Int32).toInt = 13 from rfl] at ht13
      rw [show (14 : Int32).toInt = 14 from rfl] at ht14
      rw [show (15 : Int32).toInt = 15 from rfl] at ht15
      rw [show (16 : Int32).toInt = 16 from rfl] at ht16
      refine mm_tableOut (tgt := 557) d_L_law_32 (by omega) rfl ?_
      refine mm_iinc3 (v := (u3 + 5)) (pc' := 560) d_L_law_557 rfl (wr_2 _) rfl (Nat.le_of_ble_eq_true rfl) ?_
      refine mm_goto (tgt := 18) d_L_law_560 rfl ?_
      exact mm_drop (mm_le.s (mm_le.s (mm_le.s (mm_le.s mm_le.e)))) (hk18 _ _ _ _ _ _ _ hV hw)
def wp_L_law (p0 : Option Nat) (A : ab_H) (kc ks : Nat) (Q : Int32 → ab_H → Prop) : Prop := wNew A kc ks 3 8 (fun b81 A kc ks => wD (some b81) (fun b => wXV kc ks (wp_S_init b  A) (fun A kc ks => wNew A kc ks 14 43 (fun b82 A kc ks => wD (some b82) (fun b => wXV kc ks (wp_M_init b  A) (fun A kc ks => ∃ n, wq_L_law_18 p0 Q n (some b81) (some b82) (0 : Int32) A kc ks))))))
set_option maxRecDepth 100000 in
set_option maxHeartbeats 4000000 in
theorem sd_L_law {l : Launch} {G : mm_G} {h : mm_H} {A : ab_H} {p0 : Option Nat} {kc ks : Nat} {Q : Int32 → ab_H → Prop} (hV : Vw G h A) (hw : wp_L_law p0 A kc ks Q) : mm_S l G M_L_law [va_rf p0] h kc ks (wQI G Q) := by
  unfold wp_L_law at hw
  refine mm_start rfl (by simp [mm_as, wr_cat, wr_catI, wr_catJ, wr_catN]) ?_
  rw [show mm_en [va_rf p0] M_L_law.2.2.1 = [some (va_rf p0), none, none, none] from by simp [mm_en, mm_as, wr_cat, wr_catI, wr_catJ, wr_catN]]
  show mm_V l G M_L_law kc ks 0 [some (va_rf p0), none, none, none] [] h _
  refine wr_new hV hw (pc' := 3) d_L_law_0 rfl nl_L_7 rfl (fun b81 h A kc ks hV hw => ?_)
  refine mm_dup (pc' := 4) d_L_law_3 rfl (wr_cat _) ?_
  refine wr_cIx (pc' := 7) (as := []) (st := [va_rf (some b81)]) d_L_law_4 rfl cs_L_9 rfl (W := fun b c s Q' => wp_S_init b  A c s Q') hV hw (fun b c s Q' hw => sd_S_init hV hw) rfl rfl (Nat.le_of_ble_eq_true rfl) (Nat.le_trans (wr_hR wr_h0) (Nat.le_of_ble_eq_true rfl)) (fun h A kc ks hV hw => ?_)
  refine wr_ast1 (pc' := 8) d_L_law_7 rfl (wr_2 _) (Nat.le_of_ble_eq_true rfl) ?_
  refine wr_new hV hw (pc' := 11) d_L_law_8 rfl nl_L_10 rfl (fun b82 h A kc ks hV hw => ?_)
  refine mm_dup (pc' := 12) d_L_law_11 rfl (wr_cat _) ?_
  refine wr_cIx (pc' := 15) (as := []) (st := [va_rf (some b82)]) d_L_law_12 rfl cs_L_12 rfl (W := fun b c s Q' => wp_M_init b  A c s Q') hV hw (fun b c s Q' hw => sd_M_init hV hw) rfl rfl (Nat.le_of_ble_eq_true rfl) (Nat.le_trans (wr_hR wr_h0) (Nat.le_of_ble_eq_true rfl)) (fun h A kc ks hV hw => ?_)
  refine wr_ast2 (pc' := 16) d_L_law_15 rfl (wr_2 _) (Nat.le_of_ble_eq_true rfl) ?_
  refine mm_iconst (v := 0) (pc' := 17) d_L_law_16 rfl (by decide) ?_
  refine mm_ist3 (pc' := 18) d_L_law_17 rfl (wr_2 _) (Nat.le_of_ble_eq_true rfl) ?_
  obtain ⟨n, hw⟩ := hw
  exact mm_drop (mm_le.s (mm_le.s (mm_le.s (mm_le.s mm_le.e)))) (sq_L_law_18  n _ _ _ _ _ _ _ hV hw)
