theorem d_M_header_0 : decode prog_14_method_17_code 0 = .ok (.aload_n 0, 1) := by decide +kernel
theorem d_M_header_1 : decode prog_14_method_17_code 1 = .ok (.bipush 58, 2) := by decide +kernel
theorem d_M_header_3 : decode prog_14_method_17_code 3 = .ok (.iload_n 1, 1) := by decide +kernel
theorem d_M_header_4 : decode prog_14_method_17_code 4 = .ok (.iload_n 2, 1) := by decide +kernel
theorem d_M_header_5 : decode prog_14_method_17_code 5 = .ok (.invokevirtual 109, 3) := by decide +kernel
theorem d_M_header_8 : decode prog_14_method_17_code 8 = .ok (.istore_n 3, 1) := by decide +kernel
theorem d_M_header_9 : decode prog_14_method_17_code 9 = .ok (.iload_n 3, 1) := by decide +kernel
theorem d_M_header_10 : decode prog_14_method_17_code 10 = .ok (.iload_n 1, 1) := by decide +kernel
theorem d_M_header_11 : decode prog_14_method_17_code 11 = .ok (.if_icmp .le 12, 3) := by decide +kernel
theorem d_M_header_14 : decode prog_14_method_17_code 14 = .ok (.iload_n 3, 1) := by decide +kernel
theorem d_M_header_15 : decode prog_14_method_17_code 15 = .ok (.iload_n 2, 1) := by decide +kernel
theorem d_M_header_16 : decode prog_14_method_17_code 16 = .ok (.if_icmp .ge 7, 3) := by decide +kernel
theorem d_M_header_19 : decode prog_14_method_17_code 19 = .ok (.iconst 1, 1) := by decide +kernel
theorem d_M_header_20 : decode prog_14_method_17_code 20 = .ok (.goto 4, 3) := by decide +kernel
theorem d_M_header_23 : decode prog_14_method_17_code 23 = .ok (.iconst 0, 1) := by decide +kernel
theorem d_M_header_24 : decode prog_14_method_17_code 24 = .ok (.istore 4, 2) := by decide +kernel
theorem d_M_header_26 : decode prog_14_method_17_code 26 = .ok (.iload_n 1, 1) := by decide +kernel
theorem d_M_header_27 : decode prog_14_method_17_code 27 = .ok (.istore 5, 2) := by decide +kernel
theorem d_M_header_29 : decode prog_14_method_17_code 29 = .ok (.iload 5, 2) := by decide +kernel
theorem d_M_header_31 : decode prog_14_method_17_code 31 = .ok (.iload_n 3, 1) := by decide +kernel
theorem d_M_header_32 : decode prog_14_method_17_code 32 = .ok (.if_icmp .ge 44, 3) := by decide +kernel
theorem d_M_header_35 : decode prog_14_method_17_code 35 = .ok (.iload 4, 2) := by decide +kernel
theorem d_M_header_37 : decode prog_14_method_17_code 37 = .ok (.ifCond .eq 30, 3) := by decide +kernel
theorem d_M_header_40 : decode prog_14_method_17_code 40 = .ok (.aload_n 0, 1) := by decide +kernel
theorem d_M_header_41 : decode prog_14_method_17_code 41 = .ok (.iload 5, 2) := by decide +kernel
theorem d_M_header_43 : decode prog_14_method_17_code 43 = .ok (.invokevirtual 102, 3) := by decide +kernel
theorem d_M_header_46 : decode prog_14_method_17_code 46 = .ok (.invokestatic 138, 3) := by decide +kernel
theorem d_M_header_49 : decode prog_14_method_17_code 49 = .ok (.ifCond .ne 14, 3) := by decide +kernel
theorem d_M_header_52 : decode prog_14_method_17_code 52 = .ok (.aload_n 0, 1) := by decide +kernel
theorem d_M_header_53 : decode prog_14_method_17_code 53 = .ok (.iload 5, 2) := by decide +kernel
theorem d_M_header_55 : decode prog_14_method_17_code 55 = .ok (.invokevirtual 102, 3) := by decide +kernel
theorem d_M_header_58 : decode prog_14_method_17_code 58 = .ok (.bipush 45, 2) := by decide +kernel
theorem d_M_header_60 : decode prog_14_method_17_code 60 = .ok (.if_icmp .ne 7, 3) := by decide +kernel
theorem d_M_header_63 : decode prog_14_method_17_code 63 = .ok (.iconst 1, 1) := by decide +kernel
theorem d_M_header_64 : decode prog_14_method_17_code 64 = .ok (.goto 4, 3) := by decide +kernel
theorem d_M_header_67 : decode prog_14_method_17_code 67 = .ok (.iconst 0, 1) := by decide +kernel
theorem d_M_header_68 : decode prog_14_method_17_code 68 = .ok (.istore 4, 2) := by decide +kernel
theorem d_M_header_70 : decode prog_14_method_17_code 70 = .ok (.iinc 5 1, 3) := by decide +kernel
theorem d_M_header_73 : decode prog_14_method_17_code 73 = .ok (.goto (-44), 3) := by decide +kernel
theorem d_M_header_76 : decode prog_14_method_17_code 76 = .ok (.iload 4, 2) := by decide +kernel
theorem d_M_header_78 : decode prog_14_method_17_code 78 = .ok (.ifCond .ne 7, 3) := by decide +kernel
theorem d_M_header_81 : decode prog_14_method_17_code 81 = .ok (.sipush 400, 3) := by decide +kernel
theorem d_M_header_84 : decode prog_14_method_17_code 84 = .ok (.ireturn, 1) := by decide +kernel
theorem d_M_header_85 : decode prog_14_method_17_code 85 = .ok (.aload_n 0, 1) := by decide +kernel
theorem d_M_header_86 : decode prog_14_method_17_code 86 = .ok (.getfield 77, 3) := by decide +kernel
theorem d_M_header_89 : decode prog_14_method_17_code 89 = .ok (.aload_n 0, 1) := by decide +kernel
theorem d_M_header_90 : decode prog_14_method_17_code 90 = .ok (.getfield 142, 3) := by decide +kernel
theorem d_M_header_93 : decode prog_14_method_17_code 93 = .ok (.iconst 1, 1) := by decide +kernel
theorem d_M_header_94 : decode prog_14_method_17_code 94 = .ok (.isub, 1) := by decide +kernel
theorem d_M_header_95 : decode prog_14_method_17_code 95 = .ok (.iload_n 1, 1) := by decide +kernel
theorem d_M_header_96 : decode prog_14_method_17_code 96 = .ok (.iastore, 1) := by decide +kernel
theorem d_M_header_97 : decode prog_14_method_17_code 97 = .ok (.aload_n 0, 1) := by decide +kernel
theorem d_M_header_98 : decode prog_14_method_17_code 98 = .ok (.getfield 80, 3) := by decide +kernel
theorem d_M_header_101 : decode prog_14_method_17_code 101 = .ok (.aload_n 0, 1) := by decide +kernel
theorem d_M_header_102 : decode prog_14_method_17_code 102 = .ok (.getfield 142, 3) := by decide +kernel
theorem d_M_header_105 : decode prog_14_method_17_code 105 = .ok (.iconst 1, 1) := by decide +kernel
theorem d_M_header_106 : decode prog_14_method_17_code 106 = .ok (.isub, 1) := by decide +kernel
theorem d_M_header_107 : decode prog_14_method_17_code 107 = .ok (.iload_n 2, 1) := by decide +kernel
theorem d_M_header_108 : decode prog_14_method_17_code 108 = .ok (.iastore, 1) := by decide +kernel
theorem d_M_header_109 : decode prog_14_method_17_code 109 = .ok (.aload_n 0, 1) := by decide +kernel
theorem d_M_header_110 : decode prog_14_method_17_code 110 = .ok (.iload_n 1, 1) := by decide +kernel
theorem d_M_header_111 : decode prog_14_method_17_code 111 = .ok (.iload_n 2, 1) := by decide +kernel
theorem d_M_header_112 : decode prog_14_method_17_code 112 = .ok (.invokevirtual 134, 3) := by decide +kernel
theorem d_M_header_115 : decode prog_14_method_17_code 115 = .ok (.istore 5, 2) := by decide +kernel
theorem d_M_header_117 : decode prog_14_method_17_code 117 = .ok (.aload_n 0, 1) := by decide +kernel
theorem d_M_header_118 : decode prog_14_method_17_code 118 = .ok (.iload_n 1, 1) := by decide +kernel
theorem d_M_header_119 : decode prog_14_method_17_code 119 = .ok (.iload_n 2, 1) := by decide +kernel
theorem d_M_header_120 : decode prog_14_method_17_code 120 = .ok (.invokevirtual 145, 3) := by decide +kernel
theorem d_M_header_123 : decode prog_14_method_17_code 123 = .ok (.istore 6, 2) := by decide +kernel
theorem d_M_header_125 : decode prog_14_method_17_code 125 = .ok (.aload_n 0, 1) := by decide +kernel
theorem d_M_header_126 : decode prog_14_method_17_code 126 = .ok (.iload_n 1, 1) := by decide +kernel
theorem d_M_header_127 : decode prog_14_method_17_code 127 = .ok (.iload_n 3, 1) := by decide +kernel
theorem d_M_header_128 : decode prog_14_method_17_code 128 = .ok (.invokevirtual 148, 3) := by decide +kernel
theorem d_M_header_131 : decode prog_14_method_17_code 131 = .ok (.istore 7, 2) := by decide +kernel
theorem d_M_header_133 : decode prog_14_method_17_code 133 = .ok (.iload_n 3, 1) := by decide +kernel
theorem d_M_header_134 : decode prog_14_method_17_code 134 = .ok (.iload_n 1, 1) := by decide +kernel
theorem d_M_header_135 : decode prog_14_method_17_code 135 = .ok (.isub, 1) := by decide +kernel
theorem d_M_header_136 : decode prog_14_method_17_code 136 = .ok (.iconst 3, 1) := by decide +kernel
theorem d_M_header_137 : decode prog_14_method_17_code 137 = .ok (.if_icmp .ne 22, 3) := by decide +kernel
theorem d_M_header_140 : decode prog_14_method_17_code 140 = .ok (.aload_n 0, 1) := by decide +kernel
theorem d_M_header_141 : decode prog_14_method_17_code 141 = .ok (.iload_n 1, 1) := by decide +kernel
theorem d_M_header_142 : decode prog_14_method_17_code 142 = .ok (.iload_n 3, 1) := by decide +kernel
theorem d_M_header_143 : decode prog_14_method_17_code 143 = .ok (.bipush 108, 2) := by decide +kernel
theorem d_M_header_145 : decode prog_14_method_17_code 145 = .ok (.bipush 101, 2) := by decide +kernel
theorem d_M_header_147 : decode prog_14_method_17_code 147 = .ok (.bipush 110, 2) := by decide +kernel
theorem d_M_header_149 : decode prog_14_method_17_code 149 = .ok (.invokevirtual 130, 3) := by decide +kernel
theorem d_M_header_152 : decode prog_14_method_17_code 152 = .ok (.ifCond .eq 7, 3) := by decide +kernel
theorem d_M_header_155 : decode prog_14_method_17_code 155 = .ok (.iconst 1, 1) := by decide +kernel
theorem d_M_header_156 : decode prog_14_method_17_code 156 = .ok (.goto 4, 3) := by decide +kernel
theorem d_M_header_159 : decode prog_14_method_17_code 159 = .ok (.iconst 0, 1) := by decide +kernel
theorem d_M_header_160 : decode prog_14_method_17_code 160 = .ok (.istore 8, 2) := by decide +kernel
theorem d_M_header_162 : decode prog_14_method_17_code 162 = .ok (.iload 8, 2) := by decide +kernel
theorem d_M_header_164 : decode prog_14_method_17_code 164 = .ok (.ifCond .ne 8, 3) := by decide +kernel
theorem d_M_header_167 : decode prog_14_method_17_code 167 = .ok (.iload 7, 2) := by decide +kernel
theorem d_M_header_169 : decode prog_14_method_17_code 169 = .ok (.ifCond .eq 21, 3) := by decide +kernel
theorem d_M_header_172 : decode prog_14_method_17_code 172 = .ok (.aload_n 0, 1) := by decide +kernel
theorem d_M_header_173 : decode prog_14_method_17_code 173 = .ok (.getfield 151, 3) := by decide +kernel
theorem d_M_header_176 : decode prog_14_method_17_code 176 = .ok (.ifCond .ge 10, 3) := by decide +kernel
theorem d_M_header_179 : decode prog_14_method_17_code 179 = .ok (.aload_n 0, 1) := by decide +kernel
theorem d_M_header_180 : decode prog_14_method_17_code 180 = .ok (.getfield 154, 3) := by decide +kernel
theorem d_M_header_183 : decode prog_14_method_17_code 183 = .ok (.ifCond .eq 7, 3) := by decide +kernel
theorem d_M_header_186 : decode prog_14_method_17_code 186 = .ok (.sipush 400, 3) := by decide +kernel
theorem d_M_header_189 : decode prog_14_method_17_code 189 = .ok (.ireturn, 1) := by decide +kernel
theorem d_M_header_190 : decode prog_14_method_17_code 190 = .ok (.iload 7, 2) := by decide +kernel
theorem d_M_header_192 : decode prog_14_method_17_code 192 = .ok (.ifCond .eq 62, 3) := by decide +kernel
theorem d_M_header_195 : decode prog_14_method_17_code 195 = .ok (.aload_n 0, 1) := by decide +kernel
theorem d_M_header_196 : decode prog_14_method_17_code 196 = .ok (.iconst 1, 1) := by decide +kernel
theorem d_M_header_197 : decode prog_14_method_17_code 197 = .ok (.putfield 154, 3) := by decide +kernel
theorem d_M_header_200 : decode prog_14_method_17_code 200 = .ok (.iload 6, 2) := by decide +kernel
theorem d_M_header_202 : decode prog_14_method_17_code 202 = .ok (.iload 5, 2) := by decide +kernel
theorem d_M_header_204 : decode prog_14_method_17_code 204 = .ok (.isub, 1) := by decide +kernel
theorem d_M_header_205 : decode prog_14_method_17_code 205 = .ok (.iconst 3, 1) := by decide +kernel
theorem d_M_header_206 : decode prog_14_method_17_code 206 = .ok (.if_icmp .ne 44, 3) := by decide +kernel
theorem d_M_header_209 : decode prog_14_method_17_code 209 = .ok (.aload_n 0, 1) := by decide +kernel
theorem d_M_header_210 : decode prog_14_method_17_code 210 = .ok (.iload 5, 2) := by decide +kernel
theorem d_M_header_212 : decode prog_14_method_17_code 212 = .ok (.invokevirtual 102, 3) := by decide +kernel
theorem d_M_header_215 : decode prog_14_method_17_code 215 = .ok (.bipush 121, 2) := by decide +kernel
theorem d_M_header_217 : decode prog_14_method_17_code 217 = .ok (.if_icmp .ne 33, 3) := by decide +kernel
theorem d_M_header_220 : decode prog_14_method_17_code 220 = .ok (.aload_n 0, 1) := by decide +kernel
theorem d_M_header_221 : decode prog_14_method_17_code 221 = .ok (.iload 5, 2) := by decide +kernel
theorem d_M_header_223 : decode prog_14_method_17_code 223 = .ok (.iconst 1, 1) := by decide +kernel
theorem d_M_header_224 : decode prog_14_method_17_code 224 = .ok (.iadd, 1) := by decide +kernel
theorem d_M_header_225 : decode prog_14_method_17_code 225 = .ok (.invokevirtual 102, 3) := by decide +kernel
theorem d_M_header_228 : decode prog_14_method_17_code 228 = .ok (.bipush 101, 2) := by decide +kernel
theorem d_M_header_230 : decode prog_14_method_17_code 230 = .ok (.if_icmp .ne 20, 3) := by decide +kernel
theorem d_M_header_233 : decode prog_14_method_17_code 233 = .ok (.aload_n 0, 1) := by decide +kernel
theorem d_M_header_234 : decode prog_14_method_17_code 234 = .ok (.iload 5, 2) := by decide +kernel
theorem d_M_header_236 : decode prog_14_method_17_code 236 = .ok (.iconst 2, 1) := by decide +kernel
theorem d_M_header_237 : decode prog_14_method_17_code 237 = .ok (.iadd, 1) := by decide +kernel
theorem d_M_header_238 : decode prog_14_method_17_code 238 = .ok (.invokevirtual 102, 3) := by decide +kernel
theorem d_M_header_241 : decode prog_14_method_17_code 241 = .ok (.bipush 115, 2) := by decide +kernel
theorem d_M_header_243 : decode prog_14_method_17_code 243 = .ok (.if_icmp .ne 7, 3) := by decide +kernel
theorem d_M_header_246 : decode prog_14_method_17_code 246 = .ok (.iconst 0, 1) := by decide +kernel
theorem d_M_header_247 : decode prog_14_method_17_code 247 = .ok (.goto 6, 3) := by decide +kernel
theorem d_M_header_250 : decode prog_14_method_17_code 250 = .ok (.sipush 400, 3) := by decide +kernel
theorem d_M_header_253 : decode prog_14_method_17_code 253 = .ok (.ireturn, 1) := by decide +kernel
theorem d_M_header_254 : decode prog_14_method_17_code 254 = .ok (.iload 6, 2) := by decide +kernel
theorem d_M_header_256 : decode prog_14_method_17_code 256 = .ok (.iload 5, 2) := by decide +kernel
theorem d_M_header_258 : decode prog_14_method_17_code 258 = .ok (.isub, 1) := by decide +kernel
theorem d_M_header_259 : decode prog_14_method_17_code 259 = .ok (.iconst 5, 1) := by decide +kernel
theorem d_M_header_260 : decode prog_14_method_17_code 260 = .ok (.if_icmp .ne 70, 3) := by decide +kernel
theorem d_M_header_263 : decode prog_14_method_17_code 263 = .ok (.aload_n 0, 1) := by decide +kernel
theorem d_M_header_264 : decode prog_14_method_17_code 264 = .ok (.iload 5, 2) := by decide +kernel
theorem d_M_header_266 : decode prog_14_method_17_code 266 = .ok (.invokevirtual 102, 3) := by decide +kernel
theorem d_M_header_269 : decode prog_14_method_17_code 269 = .ok (.bipush 99, 2) := by decide +kernel
theorem d_M_header_271 : decode prog_14_method_17_code 271 = .ok (.if_icmp .ne 59, 3) := by decide +kernel
theorem d_M_header_274 : decode prog_14_method_17_code 274 = .ok (.aload_n 0, 1) := by decide +kernel
theorem d_M_header_275 : decode prog_14_method_17_code 275 = .ok (.iload 5, 2) := by decide +kernel
theorem d_M_header_277 : decode prog_14_method_17_code 277 = .ok (.iconst 1, 1) := by decide +kernel
theorem d_M_header_278 : decode prog_14_method_17_code 278 = .ok (.iadd, 1) := by decide +kernel
theorem d_M_header_279 : decode prog_14_method_17_code 279 = .ok (.invokevirtual 102, 3) := by decide +kernel
theorem d_M_header_282 : decode prog_14_method_17_code 282 = .ok (.bipush 108, 2) := by decide +kernel
theorem d_M_header_284 : decode prog_14_method_17_code 284 = .ok (.if_icmp .ne 46, 3) := by decide +kernel
theorem d_M_header_287 : decode prog_14_method_17_code 287 = .ok (.aload_n 0, 1) := by decide +kernel
theorem d_M_header_288 : decode prog_14_method_17_code 288 = .ok (.iload 5, 2) := by decide +kernel
theorem d_M_header_290 : decode prog_14_method_17_code 290 = .ok (.iconst 2, 1) := by decide +kernel
theorem d_M_header_291 : decode prog_14_method_17_code 291 = .ok (.iadd, 1) := by decide +kernel
theorem d_M_header_292 : decode prog_14_method_17_code 292 = .ok (.invokevirtual 102, 3) := by decide +kernel
theorem d_M_header_295 : decode prog_14_method_17_code 295 = .ok (.bipush 111, 2) := by decide +kernel
theorem d_M_header_297 : decode prog_14_method_17_code 297 = .ok (.if_icmp .ne 33, 3) := by decide +kernel
theorem d_M_header_300 : decode prog_14_method_17_code 300 = .ok (.aload_n 0, 1) := by decide +kernel
theorem d_M_header_301 : decode prog_14_method_17_code 301 = .ok (.iload 5, 2) := by decide +kernel
theorem d_M_header_303 : decode prog_14_method_17_code 303 = .ok (.iconst 3, 1) := by decide +kernel
theorem d_M_header_304 : decode prog_14_method_17_code 304 = .ok (.iadd, 1) := by decide +kernel
theorem d_M_header_305 : decode prog_14_method_17_code 305 = .ok (.invokevirtual 102, 3) := by decide +kernel
theorem d_M_header_308 : decode prog_14_method_17_code 308 = .ok (.bipush 115, 2) := by decide +kernel
theorem d_M_header_310 : decode prog_14_method_17_code 310 = .ok (.if_icmp .ne 20, 3) := by decide +kernel
theorem d_M_header_313 : decode prog_14_method_17_code 313 = .ok (.aload_n 0, 1) := by decide +kernel
theorem d_M_header_314 : decode prog_14_method_17_code 314 = .ok (.iload 5, 2) := by decide +kernel
theorem d_M_header_316 : decode prog_14_method_17_code 316 = .ok (.iconst 4, 1) := by decide +kernel
theorem d_M_header_317 : decode prog_14_method_17_code 317 = .ok (.iadd, 1) := by decide +kernel
theorem d_M_header_318 : decode prog_14_method_17_code 318 = .ok (.invokevirtual 102, 3) := by decide +kernel
theorem d_M_header_321 : decode prog_14_method_17_code 321 = .ok (.bipush 101, 2) := by decide +kernel
theorem d_M_header_323 : decode prog_14_method_17_code 323 = .ok (.if_icmp .ne 7, 3) := by decide +kernel
theorem d_M_header_326 : decode prog_14_method_17_code 326 = .ok (.iconst 1, 1) := by decide +kernel
theorem d_M_header_327 : decode prog_14_method_17_code 327 = .ok (.goto 4, 3) := by decide +kernel
theorem d_M_header_330 : decode prog_14_method_17_code 330 = .ok (.iconst 0, 1) := by decide +kernel
theorem d_M_header_331 : decode prog_14_method_17_code 331 = .ok (.istore 9, 2) := by decide +kernel
theorem d_M_header_333 : decode prog_14_method_17_code 333 = .ok (.aload_n 0, 1) := by decide +kernel
theorem d_M_header_334 : decode prog_14_method_17_code 334 = .ok (.aload_n 0, 1) := by decide +kernel
theorem d_M_header_335 : decode prog_14_method_17_code 335 = .ok (.getfield 158, 3) := by decide +kernel
theorem d_M_header_338 : decode prog_14_method_17_code 338 = .ok (.ifCond .ne 45, 3) := by decide +kernel
theorem d_M_header_341 : decode prog_14_method_17_code 341 = .ok (.iload 9, 2) := by decide +kernel
theorem d_M_header_343 : decode prog_14_method_17_code 343 = .ok (.ifCond .eq 44, 3) := by decide +kernel
theorem d_M_header_346 : decode prog_14_method_17_code 346 = .ok (.iload_n 3, 1) := by decide +kernel
theorem d_M_header_347 : decode prog_14_method_17_code 347 = .ok (.iload_n 1, 1) := by decide +kernel
theorem d_M_header_348 : decode prog_14_method_17_code 348 = .ok (.isub, 1) := by decide +kernel
theorem d_M_header_349 : decode prog_14_method_17_code 349 = .ok (.iconst 4, 1) := by decide +kernel
theorem d_M_header_350 : decode prog_14_method_17_code 350 = .ok (.if_icmp .ne 37, 3) := by decide +kernel
theorem d_M_header_353 : decode prog_14_method_17_code 353 = .ok (.aload_n 0, 1) := by decide +kernel
theorem d_M_header_354 : decode prog_14_method_17_code 354 = .ok (.iload_n 1, 1) := by decide +kernel
theorem d_M_header_355 : decode prog_14_method_17_code 355 = .ok (.iload_n 3, 1) := by decide +kernel
theorem d_M_header_356 : decode prog_14_method_17_code 356 = .ok (.bipush 99, 2) := by decide +kernel
theorem d_M_header_358 : decode prog_14_method_17_code 358 = .ok (.bipush 111, 2) := by decide +kernel
theorem d_M_header_360 : decode prog_14_method_17_code 360 = .ok (.bipush 110, 2) := by decide +kernel
theorem d_M_header_362 : decode prog_14_method_17_code 362 = .ok (.invokevirtual 130, 3) := by decide +kernel
theorem d_M_header_365 : decode prog_14_method_17_code 365 = .ok (.ifCond .eq 22, 3) := by decide +kernel
theorem d_M_header_368 : decode prog_14_method_17_code 368 = .ok (.aload_n 0, 1) := by decide +kernel
theorem d_M_header_369 : decode prog_14_method_17_code 369 = .ok (.iload_n 1, 1) := by decide +kernel
theorem d_M_header_370 : decode prog_14_method_17_code 370 = .ok (.iconst 3, 1) := by decide +kernel
theorem d_M_header_371 : decode prog_14_method_17_code 371 = .ok (.iadd, 1) := by decide +kernel
theorem d_M_header_372 : decode prog_14_method_17_code 372 = .ok (.invokevirtual 102, 3) := by decide +kernel
theorem d_M_header_375 : decode prog_14_method_17_code 375 = .ok (.invokestatic 127, 3) := by decide +kernel
theorem d_M_header_378 : decode prog_14_method_17_code 378 = .ok (.bipush 110, 2) := by decide +kernel
theorem d_M_header_380 : decode prog_14_method_17_code 380 = .ok (.if_icmp .ne 7, 3) := by decide +kernel
theorem d_M_header_383 : decode prog_14_method_17_code 383 = .ok (.iconst 1, 1) := by decide +kernel
theorem d_M_header_384 : decode prog_14_method_17_code 384 = .ok (.goto 4, 3) := by decide +kernel
theorem d_M_header_387 : decode prog_14_method_17_code 387 = .ok (.iconst 0, 1) := by decide +kernel
theorem d_M_header_388 : decode prog_14_method_17_code 388 = .ok (.putfield 158, 3) := by decide +kernel
theorem d_M_header_391 : decode prog_14_method_17_code 391 = .ok (.iload 8, 2) := by decide +kernel
theorem d_M_header_393 : decode prog_14_method_17_code 393 = .ok (.ifCond .eq 14, 3) := by decide +kernel
theorem d_M_header_396 : decode prog_14_method_17_code 396 = .ok (.aload_n 0, 1) := by decide +kernel
theorem d_M_header_397 : decode prog_14_method_17_code 397 = .ok (.iload 5, 2) := by decide +kernel
theorem d_M_header_399 : decode prog_14_method_17_code 399 = .ok (.iload 6, 2) := by decide +kernel
theorem d_M_header_401 : decode prog_14_method_17_code 401 = .ok (.invokevirtual 161, 3) := by decide +kernel
theorem d_M_header_404 : decode prog_14_method_17_code 404 = .ok (.goto 4, 3) := by decide +kernel
theorem d_M_header_407 : decode prog_14_method_17_code 407 = .ok (.iconst 0, 1) := by decide +kernel
theorem d_M_header_408 : decode prog_14_method_17_code 408 = .ok (.ireturn, 1) := by decide +kernel
def wq_M_header_388 (a : Nat) (p0 : Int32) (p1 : Int32) (Q : Int32 → ab_H → Prop)  (u5 : Int32) (u6 : Int32) (u8 : Int32) (s0 : Option Nat) (s1 : Int32) (A : ab_H) : Prop := wB s1 (wp A s0 14 34 (.int s1) (fun A => if u8 = 0 then (Q (0 : Int32) A) else (wC A (some a) 14 (fun b => wp_M_announce b u5 u6 A (fun x1 A => Q x1 A)))))
set_option maxRecDepth 100000 in
set_option maxHeartbeats 4000000 in
theorem sq_M_header_388 {l : Launch} {G : mm_G} {a : Nat} {p0 : Int32} {p1 : Int32} {Q : Int32 → ab_H → Prop}   : ∀ (u5 : Int32) (u6 : Int32) (u8 : Int32) (s0 : Option Nat) (s1 : Int32) (A : ab_H) (h : mm_H), Vw G h A → wq_M_header_388 a p0 p1 Q  u5 u6 u8 s0 s1 A → mm_V l G M_M_header 0 0 388 [some (va_rf (some a)), some (.int p0), some (.int p1), none, none, some (.int u5), some (.int u6), none, some (.int u8), none] [.int s1, va_rf s0] h (wQI G Q) := by
  intro u5 u6 u8 s0 s1 A h hV hw
  unfold wq_M_header_388 at hw
  obtain ⟨hb, hw⟩ := hw
  refine wr_put hV hw (pc' := 391) d_M_header_388 rfl pl_M_header_158 (Nat.le_of_ble_eq_true rfl) (wn_Z hb) (fun h A hV hw => ?_)
  refine mm_iload (pc' := 393) d_M_header_391 rfl rfl ?_
  refine wr_if_eq hw (pc' := 396) d_M_header_393 rfl rfl (fun hw => ?_) (fun hw => ?_)
  · refine mm_iconst (v := 0) (pc' := 408) d_M_header_407 rfl (by decide) ?_
    exact wr_iret hV d_M_header_408 rfl rfl hw
  · refine wr_aload_n (some a) (pc' := 397) d_M_header_396 rfl rfl rfl ?_
    refine mm_iload (pc' := 399) d_M_header_397 rfl rfl ?_
    refine mm_iload (pc' := 401) d_M_header_399 rfl rfl ?_
    refine wr_cVI (pc' := 404) (as := [.int u5, .int u6]) (st := []) d_M_header_401 rfl cs_M_161 rfl (W := fun b Q' => wp_M_announce b u5 u6 A Q') hV hw (fun b Q' hw => sd_M_announce hV hw) rfl rfl (Nat.le_of_ble_eq_true rfl) (Nat.le_of_ble_eq_true rfl) (fun x1 h A hV hw => ?_)
    refine mm_goto (tgt := 408) d_M_header_404 rfl ?_
    exact wr_iret hV d_M_header_408 rfl rfl hw
def wq_M_header_387 (a : Nat) (p0 : Int32) (p1 : Int32) (Q : Int32 → ab_H → Prop)  (u5 : Int32) (u6 : Int32) (u8 : Int32) (s0 : Option Nat) (A : ab_H) : Prop := wq_M_header_388 a p0 p1 Q u5 u6 u8 s0 (0 : Int32) A
set_option maxRecDepth 100000 in
set_option maxHeartbeats 4000000 in
theorem sq_M_header_387 {l : Launch} {G : mm_G} {a : Nat} {p0 : Int32} {p1 : Int32} {Q : Int32 → ab_H → Prop}   : ∀ (u5 : Int32) (u6 : Int32) (u8 : Int32) (s0 : Option Nat) (A : ab_H) (h : mm_H), Vw G h A → wq_M_header_387 a p0 p1 Q  u5 u6 u8 s0 A → mm_V l G M_M_header 0 0 387 [some (va_rf (some a)), some (.int p0), some (.int p1), none, none, some (.int u5), some (.int u6), none, some (.int u8), none] [va_rf s0] h (wQI G Q) := by
  intro u5 u6 u8 s0 A h hV hw
  unfold wq_M_header_387 at hw
  refine mm_iconst (v := 0) (pc' := 388) d_M_header_387 rfl (by decide) ?_
  exact mm_drop (mm_le.s (mm_le.s (mm_le.s (mm_le.n (mm_le.n (mm_le.s (mm_le.s (mm_le.n (mm_le.s (mm_le.n mm_le.e)))))))))) (sq_M_header_388  _ _ _ _ _ _ _ hV hw)
def wq_M_header_383 (a : Nat) (p0 : Int32) (p1 : Int32) (Q : Int32 → ab_H → Prop)  (u5 : Int32) (u6 : Int32) (u8 : Int32) (s0 : Option Nat) (A : ab_H) : Prop := wq_M_header_388 a p0 p1 Q u5 u6 u8 s0 (1 : Int32) A
set_option maxRecDepth 100000 in
set_option maxHeartbeats 4000000 in
theorem sq_M_header_383 {l : Launch} {G : mm_G} {a : Nat} {p0 : Int32} {p1 : Int32} {Q : Int32 → ab_H → Prop}   : ∀ (u5 : Int32) (u6 : Int32) (u8 : Int32) (s0 : Option Nat) (A : ab_H) (h : mm_H), Vw G h A → wq_M_header_383 a p0 p1 Q  u5 u6 u8 s0 A → mm_V l G M_M_header 0 0 383 [some (va_rf (some a)), some (.int p0), some (.int p1), none, none, some (.int u5), some (.int u6), none, some (.int u8), none] [va_rf s0] h (wQI G Q) := by
  intro u5 u6 u8 s0 A h hV hw
  unfold wq_M_header_383 at hw
  refine mm_iconst (v := 1) (pc' := 384) d_M_header_383 rfl (by decide) ?_
  refine mm_goto (tgt := 388) d_M_header_384 rfl ?_
  exact mm_drop (mm_le.s (mm_le.s (mm_le.s (mm_le.n (mm_le.n (mm_le.s (mm_le.s (mm_le.n (mm_le.s (mm_le.n mm_le.e)))))))))) (sq_M_header_388  _ _ _ _ _ _ _ hV hw)
def wq_M_header_331 (a : Nat) (p0 : Int32) (p1 : Int32) (Q : Int32 → ab_H → Prop)  (u3 : Int32) (u5 : Int32) (u6 : Int32) (u8 : Int32) (s0 : Int32) (A : ab_H) : Prop := wgI A (some a) 14 34 (fun x2 => if x2 = 0 then (if s0 = 0 then (wq_M_header_387 a p0 p1 Q u5 u6 u8 (some a) A) else (if (u3 - p0) = (4 : Int32) then (wC A (some a) 14 (fun b => wp_M_isNamed b p0 u3 (99 : Int32) (111 : Int32) (110 : Int32) A (fun x3 A => if x3 = 0 then (wq_M_header_387 a p0 p1 Q u5 u6 u8 (some a) A) else (wC A (some a) 14 (fun b => wp_M_byteAt b (p0 + (3 : Int32)) A (fun x4 A => wp_M_small x4 A (fun x5 A => if x5 = (110 : Int32) then (wq_M_header_383 a p0 p1 Q u5 u6 u8 (some a) A) else (wq_M_header_387 a p0 p1 Q u5 u6 u8 (some a) A)))))))) else (wq_M_header_387 a p0 p1 Q u5 u6 u8 (some a) A))) else (wq_M_header_383 a p0 p1 Q u5 u6 u8 (some a) A))
set_option maxRecDepth 100000 in
set_option maxHeartbeats 4000000 in
theorem sq_M_header_331 {l : Launch} {G : mm_G} {a : Nat} {p0 : Int32} {p1 : Int32} {Q : Int32 → ab_H → Prop}   : ∀ (u3 : Int32) (u5 : Int32) (u6 : Int32) (u8 : Int32) (s0 : Int32) (A : ab_H) (h : mm_H), Vw G h A → wq_M_header_331 a p0 p1 Q  u3 u5 u6 u8 s0 A → mm_V l G M_M_header 0 0 331 [some (va_rf (some a)), some (.int p0), some (.int p1), some (.int u3), none, some (.int u5), some (.int u6), none, some (.int u8), none] [.int s0] h (wQI G Q) := by
  intro u3 u5 u6 u8 s0 A h hV hw
  unfold wq_M_header_331 at hw
  refine mm_ist9 (pc' := 333) d_M_header_331 rfl rfl (Nat.le_of_ble_eq_true rfl) ?_
  refine wr_aload_n (some a) (pc' := 334) d_M_header_333 rfl rfl rfl ?_
  refine wr_aload_n (some a) (pc' := 335) d_M_header_334 rfl rfl rfl ?_
  refine wr_getI hV hw (pc' := 338) d_M_header_335 rfl fl_M_158 (fun x2 hw => ?_)
  refine wr_if_ne hw (pc' := 341) d_M_header_338 rfl rfl (fun hw => ?_) (fun hw => ?_)
  · exact mm_drop (mm_le.s (mm_le.s (mm_le.s (mm_le.n (mm_le.n (mm_le.s (mm_le.s (mm_le.n (mm_le.s (mm_le.n mm_le.e)))))))))) (sq_M_header_383  _ _ _ _ _ _ hV hw)
  · refine mm_iload (pc' := 343) d_M_header_341 rfl rfl ?_
    refine wr_if_eq hw (pc' := 346) d_M_header_343 rfl rfl (fun hw => ?_) (fun hw => ?_)
    · exact mm_drop (mm_le.s (mm_le.s (mm_le.s (mm_le.n (mm_le.n (mm_le.s (mm_le.s (mm_le.n (mm_le.s (mm_le.n mm_le.e)))))))))) (sq_M_header_387  _ _ _ _ _ _ hV hw)
    · refine mm_iload_n (pc' := 347) d_M_header_346 rfl rfl rfl ?_
      refine mm_iload_n (pc' := 348) d_M_header_347 rfl rfl rfl ?_
      refine mm_isub (pc' := 349) d_M_header_348 rfl ?_
      refine mm_iconst (v := 4) (pc' := 350) d_M_header_349 rfl (by decide) ?_
      refine wr_icmp_ne hw (pc' := 353) d_M_header_350 rfl rfl (fun hw => ?_) (fun hw => ?_)
      · exact mm_drop (mm_le.s (mm_le.s (mm_le.s (mm_le.n (mm_le.n (mm_le.s (mm_le.s (mm_le.n (mm_le.s (mm_le.n mm_le.e)))))))))) (sq_M_header_387  _ _ _ _ _ _ hV hw)
      · refine wr_aload_n (some a) (pc' := 354) d_M_header_353 rfl rfl rfl ?_
        refine mm_iload_n (pc' := 355) d_M_header_354 rfl rfl rfl ?_
        refine mm_iload_n (pc' := 356) d_M_header_355 rfl rfl rfl ?_
        refine mm_bipush (v := 99) (pc' := 358) d_M_header_356 rfl (by decide) ?_
        refine mm_bipush (v := 111) (pc' := 360) d_M_header_358 rfl (by decide) ?_
        refine mm_bipush (v := 110) (pc' := 362) d_M_header_360 rfl (by decide) ?_
        refine wr_cVI (pc' := 365) (as := [.int p0, .int u3, .int (99 : Int32), .int (111 : Int32), .int (110 : Int32)]) (st := [va_rf (some a)]) d_M_header_362 rfl cs_M_130 rfl (W := fun b Q' => wp_M_isNamed b p0 u3 (99 : Int32) (111 : Int32) (110 : Int32) A Q') hV hw (fun b Q' hw => sd_M_isNamed hV hw) rfl rfl (Nat.le_of_ble_eq_true rfl) (Nat.le_trans (wr_hR wr_h0) (Nat.le_of_ble_eq_true rfl)) (fun x3 h A hV hw => ?_)
        refine wr_if_eq hw (pc' := 368) d_M_header_365 rfl rfl (fun hw => ?_) (fun hw => ?_)
        · exact mm_drop (mm_le.s (mm_le.s (mm_le.s (mm_le.n (mm_le.n (mm_le.s (mm_le.s (mm_le.n (mm_le.s (mm_le.n mm_le.e)))))))))) (sq_M_header_387  _ _ _ _ _ _ hV hw)
        · refine wr_aload_n (some a) (pc' := 369) d_M_header_368 rfl rfl rfl ?_
          refine mm_iload_n (pc' := 370) d_M_header_369 rfl rfl rfl ?_
          refine mm_iconst (v := 3) (pc' := 371) d_M_header_370 rfl (by decide) ?_
          refine mm_iadd (pc' := 372) d_M_header_371 rfl ?_
          refine wr_cVI (pc' := 375) (as := [.int (p0 + (3 : Int32))]) (st := [va_rf (some a)]) d_M_header_372 rfl cs_M_102 rfl (W := fun b Q' => wp_M_byteAt b (p0 + (3 : Int32)) A Q') hV hw (fun b Q' hw => sd_M_byteAt hV hw) rfl rfl (Nat.le_of_ble_eq_true rfl) (Nat.le_trans (wr_hR wr_h0) (Nat.le_of_ble_eq_true rfl)) (fun x4 h A hV hw => ?_)
          refine wr_cSI (pc' := 378) (as := [.int x4]) (st := [va_rf (some a)]) d_M_header_375 rfl cs_M_127 (sd_M_small hV hw) rfl rfl (Nat.le_of_ble_eq_true rfl) (Nat.le_trans (wr_hR wr_h0) (Nat.le_of_ble_eq_true rfl)) (fun x5 h A hV hw => ?_)
          refine mm_bipush (v := 110) (pc' := 380) d_M_header_378 rfl (by decide) ?_
          refine wr_icmp_ne hw (pc' := 383) d_M_header_380 rfl rfl (fun hw => ?_) (fun hw => ?_)
          · exact mm_drop (mm_le.s (mm_le.s (mm_le.s (mm_le.n (mm_le.n (mm_le.s (mm_le.s (mm_le.n (mm_le.s (mm_le.n mm_le.e)))))))))) (sq_M_header_387  _ _ _ _ _ _ hV hw)
          · exact mm_drop (mm_le.s (mm_le.s (mm_le.s (mm_le.n (mm_le.n (mm_le.s (mm_le.s (mm_le.n (mm_le.s (mm_le.n mm_le.e)))))))))) (sq_M_header_383  _ _ _ _ _ _ hV hw)
def wq_M_header_330 (a : Nat) (p0 : Int32) (p1 : Int32) (Q : Int32 → ab_H → Prop)  (u3 : Int32) (u5 : Int32) (u6 : Int32) (u8 : Int32) (A : ab_H) : Prop := wq_M_header_331 a p0 p1 Q u3 u5 u6 u8 (0 : Int32) A
set_option maxRecDepth 100000 in
set_option maxHeartbeats 4000000 in
theorem sq_M_header_330 {l : Launch} {G : mm_G} {a : Nat} {p0 : Int32} {p1 : Int32} {Q : Int32 → ab_H → Prop}   : ∀ (u3 : Int32) (u5 : Int32) (u6 : Int32) (u8 : Int32) (A : ab_H) (h : mm_H), Vw G h A → wq_M_header_330 a p0 p1 Q  u3 u5 u6 u8 A → mm_V l G M_M_header 0 0 330 [some (va_rf (some a)), some (.int p0), some (.int p1), some (.int u3), none, some (.int u5), some (.int u6), none, some (.int u8), none] [] h (wQI G Q) := by
  intro u3 u5 u6 u8 A h hV hw
  unfold wq_M_header_330 at hw
  refine mm_iconst (v := 0) (pc' := 331) d_M_header_330 rfl (by decide) ?_
  exact mm_drop (mm_le.s (mm_le.s (mm_le.s (mm_le.s (mm_le.n (mm_le.s (mm_le.s (mm_le.n (mm_le.s (mm_le.n mm_le.e)))))))))) (sq_M_header_331  _ _ _ _ _ _ _ hV hw)
def wq_M_header_190 (a : Nat) (p0 : Int32) (p1 : Int32) (Q : Int32 → ab_H → Prop)  (u3 : Int32) (u5 : Int32) (u6 : Int32) (u7 : Int32) (u8 : Int32) (A : ab_H) : Prop := if u7 = 0 then (if (u6 - u5) = (5 : Int32) then (wC A (some a) 14 (fun b => wp_M_byteAt b u5 A (fun x6 A => if x6 = (99 : Int32) then (wC A (some a) 14 (fun b => wp_M_byteAt b (u5 + (1 : Int32)) A (fun x7 A => if x7 = (108 : Int32) then (wC A (some a) 14 (fun b => wp_M_byteAt b (u5 + (2 : Int32)) A (fun x8 A => if x8 = (111 : Int32) then (wC A (some a) 14 (fun b => wp_M_byteAt b (u5 + (3 : Int32)) A (fun x9 A => if x9 = (115 : Int32) then (wC A (some a) 14 (fun b => wp_M_byteAt b (u5 + (4 : Int32)) A (fun x10 A => if x10 = (101 : Int32) then (wq_M_header_331 a p0 p1 Q u3 u5 u6 u8 (1 : Int32) A) else (wq_M_header_330 a p0 p1 Q u3 u5 u6 u8 A)))) else (wq_M_header_330 a p0 p1 Q u3 u5 u6 u8 A)))) else (wq_M_header_330 a p0 p1 Q u3 u5 u6 u8 A)))) else (wq_M_header_330 a p0 p1 Q u3 u5 u6 u8 A)))) else (wq_M_header_330 a p0 p1 Q u3 u5 u6 u8 A)))) else (wq_M_header_330 a p0 p1 Q u3 u5 u6 u8 A)) else (wp A (some a) 14 36 (.int (1 : Int32)) (fun A => if (u6 - u5) = (3 : Int32) then (wC A (some a) 14 (fun b => wp_M_byteAt b u5 A (fun x11 A => if x11 = (121 : Int32) then (wC A (some a) 14 (fun b => wp_M_byteAt b (u5 + (1 : Int32)) A (fun x12 A => if x12 = (101 : Int32) then (wC A (some a) 14 (fun b => wp_M_byteAt b (u5 + (2 : Int32)) A (fun x13 A => if x13 = (115 : Int32) then (Q (0 : Int32) A) else (Q (400 : Int32) A)))) else (Q (400 : Int32) A)))) else (Q (400 : Int32) A)))) else (Q (400 : Int32) A)))
set_option maxRecDepth 100000 in
set_option maxHeartbeats 4000000 in
theorem sq_M_header_190 {l : Launch} {G : mm_G} {a : Nat} {p0 : Int32} {p1 : Int32} {Q : Int32 → ab_H → Prop}   : ∀ (u3 : Int32) (u5 : Int32) (u6 : Int32) (u7 : Int32) (u8 : Int32) (A : ab_H) (h : mm_H), Vw G h A → wq_M_header_190 a p0 p1 Q  u3 u5 u6 u7 u8 A → mm_V l G M_M_header 0 0 190 [some (va_rf (some a)), some (.int p0), some (.int p1), some (.int u3), none, some (.int u5), some (.int u6), some (.int u7), some (.int u8), none] [] h (wQI G Q) := by
  intro u3 u5 u6 u7 u8 A h hV hw
  unfold wq_M_header_190 at hw
  refine mm_iload (pc' := 192) d_M_header_190 rfl rfl ?_
  refine wr_if_eq hw (pc' := 195) d_M_header_192 rfl rfl (fun hw => ?_) (fun hw => ?_)
  · refine mm_iload (pc' := 256) d_M_header_254 rfl rfl ?_
    refine mm_iload (pc' := 258) d_M_header_256 rfl rfl ?_
    refine mm_isub (pc' := 259) d_M_header_258 rfl ?_
    refine mm_iconst (v := 5) (pc' := 260) d_M_header_259 rfl (by decide) ?_
    refine wr_icmp_ne hw (pc' := 263) d_M_header_260 rfl rfl (fun hw => ?_) (fun hw => ?_)
    · exact mm_drop (mm_le.s (mm_le.s (mm_le.s (mm_le.s (mm_le.n (mm_le.s (mm_le.s (mm_le.n (mm_le.s (mm_le.n mm_le.e)))))))))) (sq_M_header_330  _ _ _ _ _ _ hV hw)
    · refine wr_aload_n (some a) (pc' := 264) d_M_header_263 rfl rfl rfl ?_
      refine mm_iload (pc' := 266) d_M_header_264 rfl rfl ?_
      refine wr_cVI (pc' := 269) (as := [.int u5]) (st := []) d_M_header_266 rfl cs_M_102 rfl (W := fun b Q' => wp_M_byteAt b u5 A Q') hV hw (fun b Q' hw => sd_M_byteAt hV hw) rfl rfl (Nat.le_of_ble_eq_true rfl) (Nat.le_of_ble_eq_true rfl) (fun x6 h A hV hw => ?_)
      refine mm_bipush (v := 99) (pc' := 271) d_M_header_269 rfl (by decide) ?_
      refine wr_icmp_ne hw (pc' := 274) d_M_header_271 rfl rfl (fun hw => ?_) (fun hw => ?_)
      · exact mm_drop (mm_le.s (mm_le.s (mm_le.s (mm_le.s (mm_le.n (mm_le.s (mm_le.s (mm_le.n (mm_le.s (mm_le.n mm_le.e)))))))))) (sq_M_header_330  _ _ _ _ _ _ hV hw)
      · refine wr_aload_n (some a) (pc' := 275) d_M_header_274 rfl rfl rfl ?_
        refine mm_iload (pc' := 277) d_M_header_275 rfl rfl ?_
        refine mm_iconst (v := 1) (pc' := 278) d_M_header_277 rfl (by decide) ?_
        refine mm_iadd (pc' := 279) d_M_header_278 rfl ?_
        refine wr_cVI (pc' := 282) (as := [.int (u5 + (1 : Int32))]) (st := []) d_M_header_279 rfl cs_M_102 rfl (W := fun b Q' => wp_M_byteAt b (u5 + (1 : Int32)) A Q') hV hw (fun b Q' hw => sd_M_byteAt hV hw) rfl rfl (Nat.le_of_ble_eq_true rfl) (Nat.le_of_ble_eq_true rfl) (fun x7 h A hV hw => ?_)
        refine mm_bipush (v := 108) (pc' := 284) d_M_header_282 rfl (by decide) ?_
        refine wr_icmp_ne hw (pc' := 287) d_M_header_284 rfl rfl (fun hw => ?_) (fun hw => ?_)
        · exact mm_drop (mm_le.s (mm_le.s (mm_le.s (mm_le.s (mm_le.n (mm_le.s (mm_le.s (mm_le.n (mm_le.s (mm_le.n mm_le.e)))))))))) (sq_M_header_330  _ _ _ _ _ _ hV hw)
        · refine wr_aload_n (some a) (pc' := 288) d_M_header_287 rfl rfl rfl ?_
          refine mm_iload (pc' := 290) d_M_header_288 rfl rfl ?_
          refine mm_iconst (v := 2) (pc' := 291) d_M_header_290 rfl (by decide) ?_
          refine mm_iadd (pc' := 292) d_M_header_291 rfl ?_
          refine wr_cVI (pc' := 295) (as := [.int (u5 + (2 : Int32))]) (st := []) d_M_header_292 rfl cs_M_102 rfl (W := fun b Q' => wp_M_byteAt b (u5 + (2 : Int32)) A Q') hV hw (fun b Q' hw => sd_M_byteAt hV hw) rfl rfl (Nat.le_of_ble_eq_true rfl) (Nat.le_of_ble_eq_true rfl) (fun x8 h A hV hw => ?_)
          refine mm_bipush (v := 111) (pc' := 297) d_M_header_295 rfl (by decide) ?_
          refine wr_icmp_ne hw (pc' := 300) d_M_header_297 rfl rfl (fun hw => ?_) (fun hw => ?_)
          · exact mm_drop (mm_le.s (mm_le.s (mm_le.s (mm_le.s (mm_le.n (mm_le.s (mm_le.s (mm_le.n (mm_le.s (mm_le.n mm_le.e)))))))))) (sq_M_header_330  _ _ _ _ _ _ hV hw)
          · refine wr_aload_n (some a) (pc' := 301) d_M_header_300 rfl rfl rfl ?_
            refine mm_iload (pc' := 303) d_M_header_301 rfl rfl ?_
            refine mm_iconst (v := 3) (pc' := 304) d_M_header_303 rfl (by decide) ?_
            refine mm_iadd (pc' := 305) d_M_header_304 rfl ?_
            refine wr_cVI (pc' := 308) (as := [.int (u5 + (3 : Int32))]) (st := []) d_M_header_305 rfl cs_M_102 rfl (W := fun b Q' => wp_M_byteAt b (u5 + (3 : Int32)) A Q') hV hw (fun b Q' hw => sd_M_byteAt hV hw) rfl rfl (Nat.le_of_ble_eq_true rfl) (Nat.le_of_ble_eq_true rfl) (fun x9 h A hV hw => ?_)
            refine mm_bipush (v := 115) (pc' := 310) d_M_header_308 rfl (by decide) ?_
            refine wr_icmp_ne hw (pc' := 313) d_M_header_310 rfl rfl (fun hw => ?_) (fun hw => ?_)
            · exact mm_drop (mm_le.s (mm_le.s (mm_le.s (mm_le.s (mm_le.n (mm_le.s (mm_le.s (mm_le.n (mm_le.s (mm_le.n mm_le.e)))))))))) (sq_M_header_330  _ _ _ _ _ _ hV hw)
            · refine wr_aload_n (some a) (pc' := 314) d_M_header_313 rfl rfl rfl ?_
              refine mm_iload (pc' := 316) d_M_header_314 rfl rfl ?_
              refine mm_iconst (v := 4) (pc' := 317) d_M_header_316 rfl (by decide) ?_
              refine mm_iadd (pc' := 318) d_M_header_317 rfl ?_
              refine wr_cVI (pc' := 321) (as := [.int (u5 + (4 : Int32))]) (st := []) d_M_header_318 rfl cs_M_102 rfl (W := fun b Q' => wp_M_byteAt b (u5 + (4 : Int32)) A Q') hV hw (fun b Q' hw => sd_M_byteAt hV hw) rfl rfl (Nat.le_of_ble_eq_true rfl) (Nat.le_of_ble_eq_true rfl) (fun x10 h A hV hw => ?_)
              refine mm_bipush (v := 101) (pc' := 323) d_M_header_321 rfl (by decide) ?_
              refine wr_icmp_ne hw (pc' := 326) d_M_header_323 rfl rfl (fun hw => ?_) (fun hw => ?_)
              · exact mm_drop (mm_le.s (mm_le.s (mm_le.s (mm_le.s (mm_le.n (mm_le.s (mm_le.s (mm_le.n (mm_le.s (mm_le.n mm_le.e)))))))))) (sq_M_header_330  _ _ _ _ _ _ hV hw)
              · refine mm_iconst (v := 1) (pc' := 327) d_M_header_326 rfl (by decide) ?_
                refine mm_goto (tgt := 331) d_M_header_327 rfl ?_
                exact mm_drop (mm_le.s (mm_le.s (mm_le.s (mm_le.s (mm_le.n (mm_le.s (mm_le.s (mm_le.n (mm_le.s (mm_le.n mm_le.e)))))))))) (sq_M_header_331  _ _ _ _ _ _ _ hV hw)
  · refine wr_aload_n (some a) (pc' := 196) d_M_header_195 rfl rfl rfl ?_
    refine mm_iconst (v := 1) (pc' := 197) d_M_header_196 rfl (by decide) ?_
    refine wr_put hV hw (pc' := 200) d_M_header_197 rfl pl_M_header_154 (Nat.le_of_ble_eq_true rfl) (fun _ => ⟨rfl, rfl⟩) (fun h A hV hw => ?_)
    refine mm_iload (pc' := 202) d_M_header_200 rfl rfl ?_
    refine mm_iload (pc' := 204) d_M_header_202 rfl rfl ?_
    refine mm_isub (pc' := 205) d_M_header_204 rfl ?_
    refine mm_iconst (v := 3) (pc' := 206) d_M_header_205 rfl (by decide) ?_
    refine wr_icmp_ne hw (pc' := 209) d_M_header_206 rfl rfl (fun hw => ?_) (fun hw => ?_)
    · refine mm_sipush (v := 400) (pc' := 253) d_M_header_250 rfl (by decide) ?_
      exact wr_iret hV d_M_header_253 rfl rfl hw
    · refine wr_aload_n (some a) (pc' := 210) d_M_header_209 rfl rfl rfl ?_
      refine mm_iload (pc' := 212) d_M_header_210 rfl rfl ?_
      refine wr_cVI (pc' := 215) (as := [.int u5]) (st := []) d_M_header_212 rfl cs_M_102 rfl (W := fun b Q' => wp_M_byteAt b u5 A Q') hV hw (fun b Q' hw => sd_M_byteAt hV hw) rfl rfl (Nat.le_of_ble_eq_true rfl) (Nat.le_of_ble_eq_true rfl) (fun x11 h A hV hw => ?_)
      refine mm_bipush (v := 121) (pc' := 217) d_M_header_215 rfl (by decide) ?_
      refine wr_icmp_ne hw (pc' := 220) d_M_header_217 rfl rfl (fun hw => ?_) (fun hw => ?_)
      · refine mm_sipush (v := 400) (pc' := 253) d_M_header_250 rfl (by decide) ?_
        exact wr_iret hV d_M_header_253 rfl rfl hw
      · refine wr_aload_n (some a) (pc' := 221) d_M_header_220 rfl rfl rfl ?_
        refine mm_iload (pc' := 223) d_M_header_221 rfl rfl ?_
        refine mm_iconst (v := 1) (pc' := 224) d_M_header_223 rfl (by decide) ?_
        refine mm_iadd (pc' := 225) d_M_header_224 rfl ?_
        refine wr_cVI (pc' := 228) (as := [.int (u5 + (1 : Int32))]) (st := []) d_M_header_225 rfl cs_M_102 rfl (W := fun b Q' => wp_M_byteAt b (u5 + (1 : Int32)) A Q') hV hw (fun b Q' hw => sd_M_byteAt hV hw) rfl rfl (Nat.le_of_ble_eq_true rfl) (Nat.le_of_ble_eq_true rfl) (fun x12 h A hV hw => ?_)
        refine mm_bipush (v := 101) (pc' := 230) d_M_header_228 rfl (by decide) ?_
        refine wr_icmp_ne hw (pc' := 233) d_M_header_230 rfl rfl (fun hw => ?_) (fun hw => ?_)
        · refine mm_sipush (v := 400) (pc' := 253) d_M_header_250 rfl (by decide) ?_
          exact wr_iret hV d_M_header_253 rfl rfl hw
        · refine wr_aload_n (some a) (pc' := 234) d_M_header_233 rfl rfl rfl ?_
          refine mm_iload (pc' := 236) d_M_header_234 rfl rfl ?_
          refine mm_iconst (v := 2) (pc' := 237) d_M_header_236 rfl (by decide) ?_
          refine mm_iadd (pc' := 238) d_M_header_237 rfl ?_
          refine wr_cVI (pc' := 241) (as := [.int (u5 + (2 : Int32))]) (st := []) d_M_header_238 rfl cs_M_102 rfl (W := fun b Q' => wp_M_byteAt b (u5 + (2 : Int32)) A Q') hV hw (fun b Q' hw => sd_M_byteAt hV hw) rfl rfl (Nat.le_of_ble_eq_true rfl) (Nat.le_of_ble_eq_true rfl) (fun x13 h A hV hw => ?_)
          refine mm_bipush (v := 115) (pc' := 243) d_M_header_241 rfl (by decide) ?_
          refine wr_icmp_ne hw (pc' := 246) d_M_header_243 rfl rfl (fun hw => ?_) (fun hw => ?_)
          · refine mm_sipush (v := 400) (pc' := 253) d_M_header_250 rfl (by decide) ?_
            exact wr_iret hV d_M_header_253 rfl rfl hw
          · refine mm_iconst (v := 0) (pc' := 247) d_M_header_246 rfl (by decide) ?_
            refine mm_goto (tgt := 253) d_M_header_247 rfl ?_
            exact wr_iret hV d_M_header_253 rfl rfl hw
def wq_M_header_172 (a : Nat) (p0 : Int32) (p1 : Int32) (Q : Int32 → ab_H → Prop)  (u3 : Int32) (u5 : Int32) (u6 : Int32) (u7 : Int32) (u8 : Int32) (A : ab_H) : Prop := wgI A (some a) 14 35 (fun x14 => if 0 ≤ x14 then (Q (400 : Int32) A) else (wgI A (some a) 14 36 (fun x15 => if x15 = 0 then (wq_M_header_190 a p0 p1 Q u3 u5 u6 u7 u8 A) else (Q (400 : Int32) A))))
set_option maxRecDepth 100000 in
set_option maxHeartbeats 4000000 in
theorem sq_M_header_172 {l : Launch} {G : mm_G} {a : Nat} {p0 : Int32} {p1 : Int32} {Q : Int32 → ab_H → Prop}   : ∀ (u3 : Int32) (u5 : Int32) (u6 : Int32) (u7 : Int32) (u8 : Int32) (A : ab_H) (h : mm_H), Vw G h A → wq_M_header_172 a p0 p1 Q  u3 u5 u6 u7 u8 A → mm_V l G M_M_header 0 0 172 [some (va_rf (some a)), some (.int p0), some (.int p1), some (.int u3), none, some (.int u5), some (.int u6), some (.int u7), some (.int u8), none] [] h (wQI G Q) := by
  intro u3 u5 u6 u7 u8 A h hV hw
  unfold wq_M_header_172 at hw
  refine wr_aload_n (some a) (pc' := 173) d_M_header_172 rfl rfl rfl ?_
  refine wr_getI hV hw (pc' := 176) d_M_header_173 rfl fl_M_151 (fun x14 hw => ?_)
  refine wr_if_ge hw (pc' := 179) d_M_header_176 rfl rfl (fun hw => ?_) (fun hw => ?_)
  · refine mm_sipush (v := 400) (pc' := 189) d_M_header_186 rfl (by decide) ?_
    exact wr_iret hV d_M_header_189 rfl rfl hw
  · refine wr_aload_n (some a) (pc' := 180) d_M_header_179 rfl rfl rfl ?_
    refine wr_getI hV hw (pc' := 183) d_M_header_180 rfl fl_M_154 (fun x15 hw => ?_)
    refine wr_if_eq hw (pc' := 186) d_M_header_183 rfl rfl (fun hw => ?_) (fun hw => ?_)
    · exact mm_drop (mm_le.s (mm_le.s (mm_le.s (mm_le.s (mm_le.n (mm_le.s (mm_le.s (mm_le.s (mm_le.s (mm_le.n mm_le.e)))))))))) (sq_M_header_190  _ _ _ _ _ _ _ hV hw)
    · refine mm_sipush (v := 400) (pc' := 189) d_M_header_186 rfl (by decide) ?_
      exact wr_iret hV d_M_header_189 rfl rfl hw
def wq_M_header_160 (a : Nat) (p0 : Int32) (p1 : Int32) (Q : Int32 → ab_H → Prop)  (u3 : Int32) (u5 : Int32) (u6 : Int32) (u7 : Int32) (s0 : Int32) (A : ab_H) : Prop := if s0 = 0 then (if u7 = 0 then (wq_M_header_190 a p0 p1 Q u3 u5 u6 u7 s0 A) else (wq_M_header_172 a p0 p1 Q u3 u5 u6 u7 s0 A)) else (wq_M_header_172 a p0 p1 Q u3 u5 u6 u7 s0 A)
set_option maxRecDepth 100000 in
set_option maxHeartbeats 4000000 in
theorem sq_M_header_160 {l : Launch} {G : mm_G} {a : Nat} {p0 : Int32} {p1 : Int32} {Q : Int32 → ab_H → Prop}   : ∀ (u3 : Int32) (u5 : Int32) (u6 : Int32) (u7 : Int32) (s0 : Int32) (A : ab_H) (h : mm_H), Vw G h A → wq_M_header_160 a p0 p1 Q  u3 u5 u6 u7 s0 A → mm_V l G M_M_header 0 0 160 [some (va_rf (some a)), some (.int p0), some (.int p1), some (.int u3), none, some (.int u5), some (.int u6), some (.int u7), none, none] [.int s0] h (wQI G Q) := by
  intro u3 u5 u6 u7 s0 A h hV hw
  unfold wq_M_header_160 at hw
  refine mm_ist8 (pc' := 162) d_M_header_160 rfl rfl (Nat.le_of_ble_eq_true rfl) ?_
  refine mm_iload (pc' := 164) d_M_header_162 rfl rfl ?_
  refine wr_if_ne hw (pc' := 167) d_M_header_164 rfl rfl (fun hw => ?_) (fun hw => ?_)
  · exact mm_drop (mm_le.s (mm_le.s (mm_le.s (mm_le.s (mm_le.n (mm_le.s (mm_le.s (mm_le.s (mm_le.s (mm_le.n mm_le.e)))))))))) (sq_M_header_172  _ _ _ _ _ _ _ hV hw)
  · refine mm_iload (pc' := 169) d_M_header_167 rfl rfl ?_
    refine wr_if_eq hw (pc' := 172) d_M_header_169 rfl rfl (fun hw => ?_) (fun hw => ?_)
    · exact mm_drop (mm_le.s (mm_le.s (mm_le.s (mm_le.s (mm_le.n (mm_le.s (mm_le.s (mm_le.s (mm_le.s (mm_le.n mm_le.e)))))))))) (sq_M_header_190  _ _ _ _ _ _ _ hV hw)
    · exact mm_drop (mm_le.s (mm_le.s (mm_le.s (mm_le.s (mm_le.n (mm_le.s (mm_le.s (mm_le.s (mm_le.s (mm_le.n mm_le.e)))))))))) (sq_M_header_172  _ _ _ _ _ _ _ hV hw)
def wq_M_header_159 (a : Nat) (p0 : Int32) (p1 : Int32) (Q : Int32 → ab_H → Prop)  (u3 : Int32) (u5 : Int32) (u6 : Int32) (u7 : Int32) (A : ab_H) : Prop := wq_M_header_160 a p0 p1 Q u3 u5 u6 u7 (0 : Int32) A
set_option maxRecDepth 100000 in
set_option maxHeartbeats 4000000 in
theorem sq_M_header_159 {l : Launch} {G : mm_G} {a : Nat} {p0 : Int32} {p1 : Int32} {Q : Int32 → ab_H → Prop}   : ∀ (u3 : Int32) (u5 : Int32) (u6 : Int32) (u7 : Int32) (A : ab_H) (h : mm_H), Vw G h A → wq_M_header_159 a p0 p1 Q  u3 u5 u6 u7 A → mm_V l G M_M_header 0 0 159 [some (va_rf (some a)), some (.int p0), some (.int p1), some (.int u3), none, some (.int u5), some (.int u6), some (.int u7), none, none] [] h (wQI G Q) := by
  intro u3 u5 u6 u7 A h hV hw
  unfold wq_M_header_159 at hw
  refine mm_iconst (v := 0) (pc' := 160) d_M_header_159 rfl (by decide) ?_
  exact mm_drop (mm_le.s (mm_le.s (mm_le.s (mm_le.s (mm_le.n (mm_le.s (mm_le.s (mm_le.s (mm_le.n (mm_le.n mm_le.e)))))))))) (sq_M_header_160  _ _ _ _ _ _ _ hV hw)
def wq_M_header_76 (a : Nat) (p0 : Int32) (p1 : Int32) (Q : Int32 → ab_H → Prop)  (u3 : Int32) (u4 : Int32) (A : ab_H) : Prop := if u4 = 0 then (Q (400 : Int32) A) else (wgR A (some a) 14 30 (fun r16 => wgI A (some a) 14 29 (fun x17 => wSI A r16 (x17 - (1 : Int32)) p0 (fun A => wgR A (some a) 14 31 (fun r18 => wgI A (some a) 14 29 (fun x19 => wSI A r18 (x19 - (1 : Int32)) p1 (fun A => wC A (some a) 14 (fun b => wp_M_valueAt b p0 p1 A (fun x20 A => wC A (some a) 14 (fun b => wp_M_valueEnd b p0 p1 A (fun x21 A => wC A (some a) 14 (fun b => wp_M_isChunked b p0 u3 A (fun x22 A => if (u3 - p0) = (3 : Int32) then (wC A (some a) 14 (fun b => wp_M_isNamed b p0 u3 (108 : Int32) (101 : Int32) (110 : Int32) A (fun x23 A => if x23 = 0 then (wq_M_header_159 a p0 p1 Q u3 x20 x21 x22 A) else (wq_M_header_160 a p0 p1 Q u3 x20 x21 x22 (1 : Int32) A)))) else (wq_M_header_159 a p0 p1 Q u3 x20 x21 x22 A))))))))))))))
set_option maxRecDepth 100000 in
set_option maxHeartbeats 4000000 in
theorem sq_M_header_76 {l : Launch} {G : mm_G} {a : Nat} {p0 : Int32} {p1 : Int32} {Q : Int32 → ab_H → Prop}   : ∀ (u3 : Int32) (u4 : Int32) (A : ab_H) (h : mm_H), Vw G h A → wq_M_header_76 a p0 p1 Q  u3 u4 A → mm_V l G M_M_header 0 0 76 [some (va_rf (some a)), some (.int p0), some (.int p1), some (.int u3), some (.int u4), none, none, none, none, none] [] h (wQI G Q) := by
  intro u3 u4 A h hV hw
  unfold wq_M_header_76 at hw
  refine mm_iload (pc' := 78) d_M_header_76 rfl rfl ?_
  refine wr_if_ne hw (pc' := 81) d_M_header_78 rfl rfl (fun hw => ?_) (fun hw => ?_)
  · refine wr_aload_n (some a) (pc' := 86) d_M_header_85 rfl rfl rfl ?_
    refine wr_getR hV hw (pc' := 89) d_M_header_86 rfl fl_M_77 (fun r16 hw => ?_)
    refine wr_aload_n (some a) (pc' := 90) d_M_header_89 rfl rfl rfl ?_
    refine wr_getI hV hw (pc' := 93) d_M_header_90 rfl fl_M_142 (fun x17 hw => ?_)
    refine mm_iconst (v := 1) (pc' := 94) d_M_header_93 rfl (by decide) ?_
    refine mm_isub (pc' := 95) d_M_header_94 rfl ?_
    refine mm_iload_n (pc' := 96) d_M_header_95 rfl rfl rfl ?_
    refine wr_astI hV hw (pc' := 97) d_M_header_96 rfl (fun h A hV hw => ?_)
    refine wr_aload_n (some a) (pc' := 98) d_M_header_97 rfl rfl rfl ?_
    refine wr_getR hV hw (pc' := 101) d_M_header_98 rfl fl_M_80 (fun r18 hw => ?_)
    refine wr_aload_n (some a) (pc' := 102) d_M_header_101 rfl rfl rfl ?_
    refine wr_getI hV hw (pc' := 105) d_M_header_102 rfl fl_M_142 (fun x19 hw => ?_)
    refine mm_iconst (v := 1) (pc' := 106) d_M_header_105 rfl (by decide) ?_
    refine mm_isub (pc' := 107) d_M_header_106 rfl ?_
    refine mm_iload_n (pc' := 108) d_M_header_107 rfl rfl rfl ?_
    refine wr_astI hV hw (pc' := 109) d_M_header_108 rfl (fun h A hV hw => ?_)
    refine wr_aload_n (some a) (pc' := 110) d_M_header_109 rfl rfl rfl ?_
    refine mm_iload_n (pc' := 111) d_M_header_110 rfl rfl rfl ?_
    refine mm_iload_n (pc' := 112) d_M_header_111 rfl rfl rfl ?_
    refine wr_cVI (pc' := 115) (as := [.int p0, .int p1]) (st := []) d_M_header_112 rfl cs_M_134 rfl (W := fun b Q' => wp_M_valueAt b p0 p1 A Q') hV hw (fun b Q' hw => sd_M_valueAt hV hw) rfl rfl (Nat.le_of_ble_eq_true rfl) (Nat.le_of_ble_eq_true rfl) (fun x20 h A hV hw => ?_)
    refine mm_ist5 (pc' := 117) d_M_header_115 rfl rfl (Nat.le_of_ble_eq_true rfl) ?_
    refine wr_aload_n (some a) (pc' := 118) d_M_header_117 rfl rfl rfl ?_
    refine mm_iload_n (pc' := 119) d_M_header_118 rfl rfl rfl ?_
    refine mm_iload_n (pc' := 120) d_M_header_119 rfl rfl rfl ?_
    refine wr_cVI (pc' := 123) (as := [.int p0, .int p1]) (st := []) d_M_header_120 rfl cs_M_145 rfl (W := fun b Q' => wp_M_valueEnd b p0 p1 A Q') hV hw (fun b Q' hw => sd_M_valueEnd hV hw) rfl rfl (Nat.le_of_ble_eq_true rfl) (Nat.le_of_ble_eq_true rfl) (fun x21 h A hV hw => ?_)
    refine mm_ist6 (pc' := 125) d_M_header_123 rfl rfl (Nat.le_of_ble_eq_true rfl) ?_
    refine wr_aload_n (some a) (pc' := 126) d_M_header_125 rfl rfl rfl ?_
    refine mm_iload_n (pc' := 127) d_M_header_126 rfl rfl rfl ?_
    refine mm_iload_n (pc' := 128) d_M_header_127 rfl rfl rfl ?_
    refine wr_cVI (pc' := 131) (as := [.int p0, .int u3]) (st := []) d_M_header_128 rfl cs_M_148 rfl (W := fun b Q' => wp_M_isChunked b p0 u3 A Q') hV hw (fun b Q' hw => sd_M_isChunked hV hw) rfl rfl (Nat.le_of_ble_eq_true rfl) (Nat.le_of_ble_eq_true rfl) (fun x22 h A hV hw => ?_)
    refine mm_ist7 (pc' := 133) d_M_header_131 rfl rfl (Nat.le_of_ble_eq_true rfl) ?_
    refine mm_iload_n (pc' := 134) d_M_header_133 rfl rfl rfl ?_
    refine mm_iload_n (pc' := 135) d_M_header_134 rfl rfl rfl ?_
    refine mm_isub (pc' := 136) d_M_header_135 rfl ?_
    refine mm_iconst (v := 3) (pc' := 137) d_M_header_136 rfl (by decide) ?_
    refine wr_icmp_ne hw (pc' := 140) d_M_header_137 rfl rfl (fun hw => ?_) (fun hw => ?_)
    · exact mm_drop (mm_le.s (mm_le.s (mm_le.s (mm_le.s (mm_le.n (mm_le.s (mm_le.s (mm_le.s (mm_le.n (mm_le.n mm_le.e)))))))))) (sq_M_header_159  _ _ _ _ _ _ hV hw)
    · refine wr_aload_n (some a) (pc' := 141) d_M_header_140 rfl rfl rfl ?_
      refine mm_iload_n (pc' := 142) d_M_header_141 rfl rfl rfl ?_
      refine mm_iload_n (pc' := 143) d_M_header_142 rfl rfl rfl ?_
      refine mm_bipush (v := 108) (pc' := 145) d_M_header_143 rfl (by decide) ?_
      refine mm_bipush (v := 101) (pc' := 147) d_M_header_145 rfl (by decide) ?_
      refine mm_bipush (v := 110) (pc' := 149) d_M_header_147 rfl (by decide) ?_
      refine wr_cVI (pc' := 152) (as := [.int p0, .int u3, .int (108 : Int32), .int (101 : Int32), .int (110 : Int32)]) (st := []) d_M_header_149 rfl cs_M_130 rfl (W := fun b Q' => wp_M_isNamed b p0 u3 (108 : Int32) (101 : Int32) (110 : Int32) A Q') hV hw (fun b Q' hw => sd_M_isNamed hV hw) rfl rfl (Nat.le_of_ble_eq_true rfl) (Nat.le_of_ble_eq_true rfl) (fun x23 h A hV hw => ?_)
      refine wr_if_eq hw (pc' := 155) d_M_header_152 rfl rfl (fun hw => ?_) (fun hw => ?_)
      · exact mm_drop (mm_le.s (mm_le.s (mm_le.s (mm_le.s (mm_le.n (mm_le.s (mm_le.s (mm_le.s (mm_le.n (mm_le.n mm_le.e)))))))))) (sq_M_header_159  _ _ _ _ _ _ hV hw)
      · refine mm_iconst (v := 1) (pc' := 156) d_M_header_155 rfl (by decide) ?_
        refine mm_goto (tgt := 160) d_M_header_156 rfl ?_
        exact mm_drop (mm_le.s (mm_le.s (mm_le.s (mm_le.s (mm_le.n (mm_le.s (mm_le.s (mm_le.s (mm_le.n (mm_le.n mm_le.e)))))))))) (sq_M_header_160  _ _ _ _ _ _ _ hV hw)
  · refine mm_sipush (v := 400) (pc' := 84) d_M_header_81 rfl (by decide) ?_
    exact wr_iret hV d_M_header_84 rfl rfl hw
def wb_M_header_29 (a : Nat) (p0 : Int32) (p1 : Int32) (Q : Int32 → ab_H → Prop)  (k29 : Int32 → Int32 → Int32 → ab_H → Prop) (u3 : Int32) (u4 : Int32) (u5 : Int32) (A : ab_H) : Prop := if u3 ≤ u5 then (wq_M_header_76 a p0 p1 Q u3 u4 A) else (if u4 = 0 then (k29 u3 (0 : Int32) (u5 + 1) A) else (wC A (some a) 14 (fun b => wp_M_byteAt b u5 A (fun x24 A => wp_M_letter x24 A (fun x25 A => if x25 = 0 then (wC A (some a) 14 (fun b => wp_M_byteAt b u5 A (fun x26 A => if x26 = (45 : Int32) then (k29 u3 (1 : Int32) (u5 + 1) A) else (k29 u3 (0 : Int32) (u5 + 1) A)))) else (k29 u3 (1 : Int32) (u5 + 1) A))))))
def wq_M_header_29 (a : Nat) (p0 : Int32) (p1 : Int32) (Q : Int32 → ab_H → Prop)  : Nat → Int32 → Int32 → Int32 → ab_H → Prop
  | 0 => fun _ _ _ _ => False
  | n + 1 => wb_M_header_29 a p0 p1 Q  (wq_M_header_29 a p0 p1 Q  n)
set_option maxRecDepth 100000 in
set_option maxHeartbeats 4000000 in
theorem sq_M_header_29 {l : Launch} {G : mm_G} {a : Nat} {p0 : Int32} {p1 : Int32} {Q : Int32 → ab_H → Prop}   : ∀ (n : Nat) (u3 : Int32) (u4 : Int32) (u5 : Int32) (A : ab_H) (h : mm_H), Vw G h A → wq_M_header_29 a p0 p1 Q  n u3 u4 u5 A → mm_V l G M_M_header 0 0 29 [some (va_rf (some a)), some (.int p0), some (.int p1), some (.int u3), some (.int u4), some (.int u5), none, none, none, none] [] h (wQI G Q) := by
  intro n
  induction n with
  | zero =>
    intro u3 u4 u5 A h hV hw
    exact absurd hw id
  | succ n hk29 =>
    intro u3 u4 u5 A h hV hw
    have hw : wb_M_header_29 a p0 p1 Q  (wq_M_header_29 a p0 p1 Q  n) u3 u4 u5 A := hw
    unfold wb_M_header_29 at hw
    refine mm_iload (pc' := 31) d_M_header_29 rfl rfl ?_
    refine mm_iload_n (pc' := 32) d_M_header_31 rfl rfl rfl ?_
    refine wr_icmp_ge hw (pc' := 35) d_M_header_32 rfl rfl (fun hw => ?_) (fun hw => ?_)
    · exact mm_drop (mm_le.s (mm_le.s (mm_le.s (mm_le.s (mm_le.s (mm_le.n (mm_le.n (mm_le.n (mm_le.n (mm_le.n mm_le.e)))))))))) (sq_M_header_76  _ _ _ _ hV hw)
    · refine mm_iload (pc' := 37) d_M_header_35 rfl rfl ?_
      refine wr_if_eq hw (pc' := 40) d_M_header_37 rfl rfl (fun hw => ?_) (fun hw => ?_)
      · refine mm_iconst (v := 0) (pc' := 68) d_M_header_67 rfl (by decide) ?_
        refine mm_ist4 (pc' := 70) d_M_header_68 rfl rfl (Nat.le_of_ble_eq_true rfl) ?_
        refine mm_iinc5 (v := (u5 + 1)) (pc' := 73) d_M_header_70 rfl rfl rfl (Nat.le_of_ble_eq_true rfl) ?_
        refine mm_goto (tgt := 29) d_M_header_73 rfl ?_
        exact mm_drop (mm_le.s (mm_le.s (mm_le.s (mm_le.s (mm_le.s (mm_le.s (mm_le.n (mm_le.n (mm_le.n (mm_le.n mm_le.e)))))))))) (hk29 _ _ _ _ _ hV hw)
      · refine wr_aload_n (some a) (pc' := 41) d_M_header_40 rfl rfl rfl ?_
        refine mm_iload (pc' := 43) d_M_header_41 rfl rfl ?_
        refine wr_cVI (pc' := 46) (as := [.int u5]) (st := []) d_M_header_43 rfl cs_M_102 rfl (W := fun b Q' => wp_M_byteAt b u5 A Q') hV hw (fun b Q' hw => sd_M_byteAt hV hw) rfl rfl (Nat.le_of_ble_eq_true rfl) (Nat.le_of_ble_eq_true rfl) (fun x24 h A hV hw => ?_)
        refine wr_cSI (pc' := 49) (as := [.int x24]) (st := []) d_M_header_46 rfl cs_M_138 (sd_M_letter hV hw) rfl rfl (Nat.le_of_ble_eq_true rfl) (Nat.le_of_ble_eq_true rfl) (fun x25 h A hV hw => ?_)
        refine wr_if_ne hw (pc' := 52) d_M_header_49 rfl rfl (fun hw => ?_) (fun hw => ?_)
        · refine mm_iconst (v := 1) (pc' := 64) d_M_header_63 rfl (by decide) ?_
          refine mm_goto (tgt := 68) d_M_header_64 rfl ?_
          refine mm_ist4 (pc' := 70) d_M_header_68 rfl rfl (Nat.le_of_ble_eq_true rfl) ?_
          refine mm_iinc5 (v := (u5 + 1)) (pc' := 73) d_M_header_70 rfl rfl rfl (Nat.le_of_ble_eq_true rfl) ?_
          refine mm_goto (tgt := 29) d_M_header_73 rfl ?_
          exact mm_drop (mm_le.s (mm_le.s (mm_le.s (mm_le.s (mm_le.s (mm_le.s (mm_le.n (mm_le.n (mm_le.n (mm_le.n mm_le.e)))))))))) (hk29 _ _ _ _ _ hV hw)
        · refine wr_aload_n (some a) (pc' := 53) d_M_header_52 rfl rfl rfl ?_
          refine mm_iload (pc' := 55) d_M_header_53 rfl rfl ?_
          refine wr_cVI (pc' := 58) (as := [.int u5]) (st := []) d_M_header_55 rfl cs_M_102 rfl (W := fun b Q' => wp_M_byteAt b u5 A Q') hV hw (fun b Q' hw => sd_M_byteAt hV hw) rfl rfl (Nat.le_of_ble_eq_true rfl) (Nat.le_of_ble_eq_true rfl) (fun x26 h A hV hw => ?_)
          refine mm_bipush (v := 45) (pc' := 60) d_M_header_58 rfl (by decide) ?_
          refine wr_icmp_ne hw (pc' := 63) d_M_header_60 rfl rfl (fun hw => ?_) (fun hw => ?_)
          · refine mm_iconst (v := 0) (pc' := 68) d_M_header_67 rfl (by decide) ?_
            refine mm_ist4 (pc' := 70) d_M_header_68 rfl rfl (Nat.le_of_ble_eq_true rfl) ?_
            refine mm_iinc5 (v := (u5 + 1)) (pc' := 73) d_M_header_70 rfl rfl rfl (Nat.le_of_ble_eq_true rfl) ?_
            refine mm_goto (tgt := 29) d_M_header_73 rfl ?_
            exact mm_drop (mm_le.s (mm_le.s (mm_le.s (mm_le.s (mm_le.s (mm_le.s (mm_le.n (mm_le.n (mm_le.n (mm_le.n mm_le.e)))))))))) (hk29 _ _ _ _ _ hV hw)
          · refine mm_iconst (v := 1) (pc' := 64) d_M_header_63 rfl (by decide) ?_
            refine mm_goto (tgt := 68) d_M_header_64 rfl ?_
            refine mm_ist4 (pc' := 70) d_M_header_68 rfl rfl (Nat.le_of_ble_eq_true rfl) ?_
            refine mm_iinc5 (v := (u5 + 1)) (pc' := 73) d_M_header_70 rfl rfl rfl (Nat.le_of_ble_eq_true rfl) ?_
            refine mm_goto (tgt := 29) d_M_header_73 rfl ?_
            exact mm_drop (mm_le.s (mm_le.s (mm_le.s (mm_le.s (mm_le.s (mm_le.s (mm_le.n (mm_le.n (mm_le.n (mm_le.n mm_le.e)))))))))) (hk29 _ _ _ _ _ hV hw)
def wq_M_header_24 (a : Nat) (p0 : Int32) (p1 : Int32) (Q : Int32 → ab_H → Prop)  (u3 : Int32) (s0 : Int32) (A : ab_H) : Prop := ∃ n, wq_M_header_29 a p0 p1 Q n u3 s0 p0 A
set_option maxRecDepth 100000 in
set_option maxHeartbeats 4000000 in
theorem sq_M_header_24 {l : Launch} {G : mm_G} {a : Nat} {p0 : Int32} {p1 : Int32} {Q : Int32 → ab_H → Prop}   : ∀ (u3 : Int32) (s0 : Int32) (A : ab_H) (h : mm_H), Vw G h A → wq_M_header_24 a p0 p1 Q  u3 s0 A → mm_V l G M_M_header 0 0 24 [some (va_rf (some a)), some (.int p0), some (.int p1), some (.int u3), none, none, none, none, none, none] [.int s0] h (wQI G Q) := by
  intro u3 s0 A h hV hw
  unfold wq_M_header_24 at hw
  refine mm_ist4 (pc' := 26) d_M_header_24 rfl rfl (Nat.le_of_ble_eq_true rfl) ?_
  refine mm_iload_n (pc' := 27) d_M_header_26 rfl rfl rfl ?_
  refine mm_ist5 (pc' := 29) d_M_header_27 rfl rfl (Nat.le_of_ble_eq_true rfl) ?_
  obtain ⟨n, hw⟩ := hw
  exact mm_drop (mm_le.s (mm_le.s (mm_le.s (mm_le.s (mm_le.s (mm_le.s (mm_le.n (mm_le.n (mm_le.n (mm_le.n mm_le.e)))))))))) (sq_M_header_29  n _ _ _ _ _ hV hw)
def wq_M_header_23 (a : Nat) (p0 : Int32) (p1 : Int32) (Q : Int32 → ab_H → Prop)  (u3 : Int32) (A : ab_H) : Prop := wq_M_header_24 a p0 p1 Q u3 (0 : Int32) A
set_option maxRecDepth 100000 in
set_option maxHeartbeats 4000000 in
theorem sq_M_header_23 {l : Launch} {G : mm_G} {a : Nat} {p0 : Int32} {p1 : Int32} {Q : Int32 → ab_H → Prop}   : ∀ (u3 : Int32) (A : ab_H) (h : mm_H), Vw G h A → wq_M_header_23 a p0 p1 Q  u3 A → mm_V l G M_M_header 0 0 23 [some (va_rf (some a)), some (.int p0), some (.int p1), some (.int u3), none, none, none, none, none, none] [] h (wQI G Q) := by
  intro u3 A h hV hw
  unfold wq_M_header_23 at hw
  refine mm_iconst (v := 0) (pc' := 24) d_M_header_23 rfl (by decide) ?_
  exact mm_drop (mm_le.s (mm_le.s (mm_le.s (mm_le.s (mm_le.n (mm_le.n (mm_le.n (mm_le.n (mm_le.n (mm_le.n mm_le.e)))))))))) (sq_M_header_24  _ _ _ _ hV hw)
def wp_M_header (a : Nat) (p0 : Int32) (p1 : Int32) (A : ab_H) (Q : Int32 → ab_H → Prop) : Prop := wC A (some a) 14 (fun b => wp_M_seek b (58 : Int32) p0 p1 A (fun x27 A => if x27 ≤ p0 then (wq_M_header_23 a p0 p1 Q x27 A) else (if p1 ≤ x27 then (wq_M_header_23 a p0 p1 Q x27 A) else (wq_M_header_24 a p0 p1 Q x27 (1 : Int32) A))))
set_option maxRecDepth 100000 in
set_option maxHeartbeats 4000000 in
theorem sd_M_header {l : Launch} {G : mm_G} {h : mm_H} {A : ab_H} {a : Nat} {p0 : Int32} {p1 : Int32} {Q : Int32 → ab_H → Prop} (hV : Vw G h A) (hw : wp_M_header a p0 p1 A Q) : mm_S l G M_M_header [.ref a, .int p0, .int p1] h 0 0 (wQI G Q) := by
  unfold wp_M_header at hw
  refine mm_start rfl (Nat.le_of_ble_eq_true rfl) ?_
  show mm_V l G M_M_header 0 0 0 [some (va_rf (some a)), some (.int p0), some (.int p1), none, none, none, none, none, none, none] [] h _
  refine wr_aload_n (some a) (pc' := 1) d_M_header_0 rfl rfl rfl ?_
  refine mm_bipush (v := 58) (pc' := 3) d_M_header_1 rfl (by decide) ?_
  refine mm_iload_n (pc' := 4) d_M_header_3 rfl rfl rfl ?_
  refine mm_iload_n (pc' := 5) d_M_header_4 rfl rfl rfl ?_
  refine wr_cVI (pc' := 8) (as := [.int (58 : Int32), .int p0, .int p1]) (st := []) d_M_header_5 rfl cs_M_109 rfl (W := fun b Q' => wp_M_seek b (58 : Int32) p0 p1 A Q') hV hw (fun b Q' hw => sd_M_seek hV hw) rfl rfl (Nat.le_of_ble_eq_true rfl) (Nat.le_of_ble_eq_true rfl) (fun x27 h A hV hw => ?_)
  refine mm_ist3 (pc' := 9) d_M_header_8 rfl rfl (Nat.le_of_ble_eq_true rfl) ?_
  refine mm_iload_n (pc' := 10) d_M_header_9 rfl rfl rfl ?_
  refine mm_iload_n (pc' := 11) d_M_header_10 rfl rfl rfl ?_
  refine wr_icmp_le hw (pc' := 14) d_M_header_11 rfl rfl (fun hw => ?_) (fun hw => ?_)
  · exact mm_drop (mm_le.s (mm_le.s (mm_le.s (mm_le.s (mm_le.n (mm_le.n (mm_le.n (mm_le.n (mm_le.n (mm_le.n mm_le.e)))))))))) (sq_M_header_23  _ _ _ hV hw)
  · refine mm_iload_n (pc' := 15) d_M_header_14 rfl rfl rfl ?_
    refine mm_iload_n (pc' := 16) d_M_header_15 rfl rfl rfl ?_
    refine wr_icmp_ge hw (pc' := 19) d_M_header_16 rfl rfl (fun hw => ?_) (fun hw => ?_)
    · exact mm_drop (mm_le.s (mm_le.s (mm_le.s (mm_le.s (mm_le.n (mm_le.n (mm_le.n (mm_le.n (mm_le.n (mm_le.n mm_le.e)))))))))) (sq_M_header_23  _ _ _ hV hw)
    · refine mm_iconst (v := 1) (pc' := 20) d_M_header_19 rfl (by decide) ?_
      refine mm_goto (tgt := 24) d_M_header_20 rfl ?_
      exact mm_drop (mm_le.s (mm_le.s (mm_le.s (mm_le.s (mm_le.n (mm_le.n (mm_le.n (mm_le.n (mm_le.n (mm_le.n mm_le.e)))))))))) (sq_M_header_24  _ _ _ _ hV hw)
theorem d_M_is_0 : decode prog_14_method_21_code 0 = .ok (.iload_n 1, 1) := by decide +kernel
theorem d_M_is_1 : decode prog_14_method_21_code 1 = .ok (.aload_n 0, 1) := by decide +kernel
theorem d_M_is_2 : decode prog_14_method_21_code 2 = .ok (.getfield 95, 3) := by decide +kernel
theorem d_M_is_5 : decode prog_14_method_21_code 5 = .ok (.if_icmp .lt 7, 3) := by decide +kernel
theorem d_M_is_8 : decode prog_14_method_21_code 8 = .ok (.iconst 0, 1) := by decide +kernel
theorem d_M_is_9 : decode prog_14_method_21_code 9 = .ok (.goto 19, 3) := by decide +kernel
theorem d_M_is_12 : decode prog_14_method_21_code 12 = .ok (.aload_n 0, 1) := by decide +kernel
theorem d_M_is_13 : decode prog_14_method_21_code 13 = .ok (.iload_n 1, 1) := by decide +kernel
theorem d_M_is_14 : decode prog_14_method_21_code 14 = .ok (.invokevirtual 102, 3) := by decide +kernel
theorem d_M_is_17 : decode prog_14_method_21_code 17 = .ok (.iload_n 2, 1) := by decide +kernel
theorem d_M_is_18 : decode prog_14_method_21_code 18 = .ok (.if_icmp .ne 7, 3) := by decide +kernel
theorem d_M_is_21 : decode prog_14_method_21_code 21 = .ok (.iconst 1, 1) := by decide +kernel
theorem d_M_is_22 : decode prog_14_method_21_code 22 = .ok (.goto 6, 3) := by decide +kernel
theorem d_M_is_25 : decode prog_14_method_21_code 25 = .ok (.sipush 400, 3) := by decide +kernel
theorem d_M_is_28 : decode prog_14_method_21_code 28 = .ok (.ireturn, 1) := by decide +kernel
def wp_M_is (a : Nat) (p0 : Int32) (p1 : Int32) (A : ab_H) (Q : Int32 → ab_H → Prop) : Prop := wgI A (some a) 14 28 (fun x1 => if p0 < x1 then (wC A (some a) 14 (fun b => wp_M_byteAt b p0 A (fun x2 A => if x2 = p1 then (Q (1 : Int32) A) else (Q (400 : Int32) A)))) else (Q (0 : Int32) A))
set_option maxRecDepth 100000 in
set_option maxHeartbeats 4000000 in
theorem sd_M_is {l : Launch} {G : mm_G} {h : mm_H} {A : ab_H} {a : Nat} {p0 : Int32} {p1 : Int32} {Q : Int32 → ab_H → Prop} (hV : Vw G h A) (hw : wp_M_is a p0 p1 A Q) : mm_S l G M_M_is [.ref a, .int p0, .int p1] h 0 0 (wQI G Q) := by
  unfold wp_M_is at hw
  refine mm_start rfl (Nat.le_of_ble_eq_true rfl) ?_
  show mm_V l G M_M_is 0 0 0 [some (va_rf (some a)), some (.int p0), some (.int p1)] [] h _
  refine mm_iload_n (pc' := 1) d_M_is_0 rfl rfl rfl ?_
  refine wr_aload_n (some a) (pc' := 2) d_M_is_1 rfl rfl rfl ?_
  refine wr_getI hV hw (pc' := 5) d_M_is_2 rfl fl_M_95 (fun x1 hw => ?_)
  refine wr_icmp_lt hw (pc' := 8) d_M_is_5 rfl rfl (fun hw => ?_) (fun hw => ?_)
  · refine wr_aload_n (some a) (pc' := 13) d_M_is_12 rfl rfl rfl ?_
    refine mm_iload_n (pc' := 14) d_M_is_13 rfl rfl rfl ?_
    refine wr_cVI (pc' := 17) (as := [.int p0]) (st := []) d_M_is_14 rfl cs_M_102 rfl (W := fun b Q' => wp_M_byteAt b p0 A Q') hV hw (fun b Q' hw => sd_M_byteAt hV hw) rfl rfl (Nat.le_of_ble_eq_true rfl) (Nat.le_of_ble_eq_true rfl) (fun x2 h A hV hw => ?_)
    refine mm_iload_n (pc' := 18) d_M_is_17 rfl rfl rfl ?_
    refine wr_icmp_ne hw (pc' := 21) d_M_is_18 rfl rfl (fun hw => ?_) (fun hw => ?_)
    · refine mm_sipush (v := 400) (pc' := 28) d_M_is_25 rfl (by decide) ?_
      exact wr_iret hV d_M_is_28 rfl rfl hw
    · refine mm_iconst (v := 1) (pc' := 22) d_M_is_21 rfl (by decide) ?_
      refine mm_goto (tgt := 28) d_M_is_22 rfl ?_
      exact wr_iret hV d_M_is_28 rfl rfl hw
  · refine mm_iconst (v := 0) (pc' := 9) d_M_is_8 rfl (by decide) ?_
    refine mm_goto (tgt := 28) d_M_is_9 rfl ?_
    exact wr_iret hV d_M_is_28 rfl rfl hw
theorem d_M_chunks_0 : decode prog_14_method_22_code 0 = .ok (.iload_n 1, 1) := by decide +kernel
theorem d_M_chunks_1 : decode prog_14_method_22_code 1 = .ok (.istore_n 2, 1) := by decide +kernel
theorem d_M_chunks_2 : decode prog_14_method_22_code 2 = .ok (.iconst 0, 1) := by decide +kernel
theorem d_M_chunks_3 : decode prog_14_method_22_code 3 = .ok (.istore_n 3, 1) := by decide +kernel
theorem d_M_chunks_4 : decode prog_14_method_22_code 4 = .ok (.iconst 0, 1) := by decide +kernel
theorem d_M_chunks_5 : decode prog_14_method_22_code 5 = .ok (.istore 4, 2) := by decide +kernel
theorem d_M_chunks_7 : decode prog_14_method_22_code 7 = .ok (.iload 4, 2) := by decide +kernel
theorem d_M_chunks_9 : decode prog_14_method_22_code 9 = .ok (.bipush 100, 2) := by decide +kernel
theorem d_M_chunks_11 : decode prog_14_method_22_code 11 = .ok (.if_icmp .ge 259, 3) := by decide +kernel
theorem d_M_chunks_14 : decode prog_14_method_22_code 14 = .ok (.iconst 0, 1) := by decide +kernel
theorem d_M_chunks_15 : decode prog_14_method_22_code 15 = .ok (.istore 5, 2) := by decide +kernel
theorem d_M_chunks_17 : decode prog_14_method_22_code 17 = .ok (.iconst 0, 1) := by decide +kernel
theorem d_M_chunks_18 : decode prog_14_method_22_code 18 = .ok (.istore 6, 2) := by decide +kernel
theorem d_M_chunks_20 : decode prog_14_method_22_code 20 = .ok (.iload 5, 2) := by decide +kernel
theorem d_M_chunks_22 : decode prog_14_method_22_code 22 = .ok (.iconst 2, 1) := by decide +kernel
theorem d_M_chunks_23 : decode prog_14_method_22_code 23 = .ok (.if_icmp .ge 63, 3) := by decide +kernel
theorem d_M_chunks_26 : decode prog_14_method_22_code 26 = .ok (.iload_n 2, 1) := by decide +kernel
theorem d_M_chunks_27 : decode prog_14_method_22_code 27 = .ok (.aload_n 0, 1) := by decide +kernel
theorem d_M_chunks_28 : decode prog_14_method_22_code 28 = .ok (.getfield 95, 3) := by decide +kernel
theorem d_M_chunks_31 : decode prog_14_method_22_code 31 = .ok (.if_icmp .ge 55, 3) := by decide +kernel
theorem d_M_chunks_34 : decode prog_14_method_22_code 34 = .ok (.aload_n 0, 1) := by decide +kernel
theorem d_M_chunks_35 : decode prog_14_method_22_code 35 = .ok (.iload_n 2, 1) := by decide +kernel
theorem d_M_chunks_36 : decode prog_14_method_22_code 36 = .ok (.invokevirtual 102, 3) := by decide +kernel
theorem d_M_chunks_39 : decode prog_14_method_22_code 39 = .ok (.invokestatic 106, 3) := by decide +kernel
theorem d_M_chunks_42 : decode prog_14_method_22_code 42 = .ok (.ifCond .lt 44, 3) := by decide +kernel
theorem d_M_chunks_45 : decode prog_14_method_22_code 45 = .ok (.aload_n 0, 1) := by decide +kernel
theorem d_M_chunks_46 : decode prog_14_method_22_code 46 = .ok (.iload_n 2, 1) := by decide +kernel
theorem d_M_chunks_47 : decode prog_14_method_22_code 47 = .ok (.invokevirtual 102, 3) := by decide +kernel
theorem d_M_chunks_50 : decode prog_14_method_22_code 50 = .ok (.aload_n 0, 1) := by decide +kernel
theorem d_M_chunks_51 : decode prog_14_method_22_code 51 = .ok (.iload_n 2, 1) := by decide +kernel
theorem d_M_chunks_52 : decode prog_14_method_22_code 52 = .ok (.invokevirtual 102, 3) := by decide +kernel
theorem d_M_chunks_55 : decode prog_14_method_22_code 55 = .ok (.invokestatic 127, 3) := by decide +kernel
theorem d_M_chunks_58 : decode prog_14_method_22_code 58 = .ok (.if_icmp .ne 28, 3) := by decide +kernel
theorem d_M_chunks_61 : decode prog_14_method_22_code 61 = .ok (.bipush 16, 2) := by decide +kernel
theorem d_M_chunks_63 : decode prog_14_method_22_code 63 = .ok (.iload 6, 2) := by decide +kernel
theorem d_M_chunks_65 : decode prog_14_method_22_code 65 = .ok (.imul, 1) := by decide +kernel
theorem d_M_chunks_66 : decode prog_14_method_22_code 66 = .ok (.aload_n 0, 1) := by decide +kernel
theorem d_M_chunks_67 : decode prog_14_method_22_code 67 = .ok (.iload_n 2, 1) := by decide +kernel
theorem d_M_chunks_68 : decode prog_14_method_22_code 68 = .ok (.invokevirtual 102, 3) := by decide +kernel
theorem d_M_chunks_71 : decode prog_14_method_22_code 71 = .ok (.invokestatic 106, 3) := by decide +kernel
theorem d_M_chunks_74 : decode prog_14_method_22_code 74 = .ok (.iadd, 1) := by decide +kernel
theorem d_M_chunks_75 : decode prog_14_method_22_code 75 = .ok (.istore 6, 2) := by decide +kernel
theorem d_M_chunks_77 : decode prog_14_method_22_code 77 = .ok (.iinc 5 1, 3) := by decide +kernel
theorem d_M_chunks_80 : decode prog_14_method_22_code 80 = .ok (.iinc 2 1, 3) := by decide +kernel
theorem d_M_chunks_83 : decode prog_14_method_22_code 83 = .ok (.goto (-63), 3) := by decide +kernel
theorem d_M_chunks_86 : decode prog_14_method_22_code 86 = .ok (.iload_n 2, 1) := by decide +kernel
theorem d_M_chunks_87 : decode prog_14_method_22_code 87 = .ok (.aload_n 0, 1) := by decide +kernel
theorem d_M_chunks_88 : decode prog_14_method_22_code 88 = .ok (.getfield 95, 3) := by decide +kernel
theorem d_M_chunks_91 : decode prog_14_method_22_code 91 = .ok (.if_icmp .ge 12, 3) := by decide +kernel
theorem d_M_chunks_94 : decode prog_14_method_22_code 94 = .ok (.iload 5, 2) := by decide +kernel
theorem d_M_chunks_96 : decode prog_14_method_22_code 96 = .ok (.ifCond .ne 7, 3) := by decide +kernel
theorem d_M_chunks_99 : decode prog_14_method_22_code 99 = .ok (.sipush 400, 3) := by decide +kernel
theorem d_M_chunks_102 : decode prog_14_method_22_code 102 = .ok (.ireturn, 1) := by decide +kernel
theorem d_M_chunks_103 : decode prog_14_method_22_code 103 = .ok (.aload_n 0, 1) := by decide +kernel
theorem d_M_chunks_104 : decode prog_14_method_22_code 104 = .ok (.iload_n 2, 1) := by decide +kernel
theorem d_M_chunks_105 : decode prog_14_method_22_code 105 = .ok (.bipush 13, 2) := by decide +kernel
theorem d_M_chunks_107 : decode prog_14_method_22_code 107 = .ok (.invokevirtual 182, 3) := by decide +kernel
theorem d_M_chunks_110 : decode prog_14_method_22_code 110 = .ok (.iconst 1, 1) := by decide +kernel
theorem d_M_chunks_111 : decode prog_14_method_22_code 111 = .ok (.if_icmp .ne 15, 3) := by decide +kernel
theorem d_M_chunks_114 : decode prog_14_method_22_code 114 = .ok (.aload_n 0, 1) := by decide +kernel
theorem d_M_chunks_115 : decode prog_14_method_22_code 115 = .ok (.iload_n 2, 1) := by decide +kernel
theorem d_M_chunks_116 : decode prog_14_method_22_code 116 = .ok (.iconst 1, 1) := by decide +kernel
theorem d_M_chunks_117 : decode prog_14_method_22_code 117 = .ok (.iadd, 1) := by decide +kernel
theorem d_M_chunks_118 : decode prog_14_method_22_code 118 = .ok (.bipush 10, 2) := by decide +kernel
theorem d_M_chunks_120 : decode prog_14_method_22_code 120 = .ok (.invokevirtual 182, 3) := by decide +kernel
theorem d_M_chunks_123 : decode prog_14_method_22_code 123 = .ok (.goto 10, 3) := by decide +kernel
theorem d_M_chunks_126 : decode prog_14_method_22_code 126 = .ok (.aload_n 0, 1) := by decide +kernel
theorem d_M_chunks_127 : decode prog_14_method_22_code 127 = .ok (.iload_n 2, 1) := by decide +kernel
theorem d_M_chunks_128 : decode prog_14_method_22_code 128 = .ok (.bipush 13, 2) := by decide +kernel
theorem d_M_chunks_130 : decode prog_14_method_22_code 130 = .ok (.invokevirtual 182, 3) := by decide +kernel
theorem d_M_chunks_133 : decode prog_14_method_22_code 133 = .ok (.istore 7, 2) := by decide +kernel
theorem d_M_chunks_135 : decode prog_14_method_22_code 135 = .ok (.iload 7, 2) := by decide +kernel
theorem d_M_chunks_137 : decode prog_14_method_22_code 137 = .ok (.iconst 1, 1) := by decide +kernel
theorem d_M_chunks_138 : decode prog_14_method_22_code 138 = .ok (.if_icmp .eq 6, 3) := by decide +kernel
theorem d_M_chunks_141 : decode prog_14_method_22_code 141 = .ok (.iload 7, 2) := by decide +kernel
theorem d_M_chunks_143 : decode prog_14_method_22_code 143 = .ok (.ireturn, 1) := by decide +kernel
theorem d_M_chunks_144 : decode prog_14_method_22_code 144 = .ok (.iinc 2 2, 3) := by decide +kernel
theorem d_M_chunks_147 : decode prog_14_method_22_code 147 = .ok (.iload_n 3, 1) := by decide +kernel
theorem d_M_chunks_148 : decode prog_14_method_22_code 148 = .ok (.iload 6, 2) := by decide +kernel
theorem d_M_chunks_150 : decode prog_14_method_22_code 150 = .ok (.iadd, 1) := by decide +kernel
theorem d_M_chunks_151 : decode prog_14_method_22_code 151 = .ok (.istore_n 3, 1) := by decide +kernel
theorem d_M_chunks_152 : decode prog_14_method_22_code 152 = .ok (.iload_n 3, 1) := by decide +kernel
theorem d_M_chunks_153 : decode prog_14_method_22_code 153 = .ok (.bipush 40, 2) := by decide +kernel
theorem d_M_chunks_155 : decode prog_14_method_22_code 155 = .ok (.if_icmp .le 7, 3) := by decide +kernel
theorem d_M_chunks_158 : decode prog_14_method_22_code 158 = .ok (.sipush 413, 3) := by decide +kernel
theorem d_M_chunks_161 : decode prog_14_method_22_code 161 = .ok (.ireturn, 1) := by decide +kernel
theorem d_M_chunks_162 : decode prog_14_method_22_code 162 = .ok (.iconst 0, 1) := by decide +kernel
theorem d_M_chunks_163 : decode prog_14_method_22_code 163 = .ok (.istore 8, 2) := by decide +kernel
theorem d_M_chunks_165 : decode prog_14_method_22_code 165 = .ok (.iload 8, 2) := by decide +kernel
theorem d_M_chunks_167 : decode prog_14_method_22_code 167 = .ok (.iload 6, 2) := by decide +kernel
theorem d_M_chunks_169 : decode prog_14_method_22_code 169 = .ok (.if_icmp .ge 46, 3) := by decide +kernel
theorem d_M_chunks_172 : decode prog_14_method_22_code 172 = .ok (.iload_n 2, 1) := by decide +kernel
theorem d_M_chunks_173 : decode prog_14_method_22_code 173 = .ok (.aload_n 0, 1) := by decide +kernel
theorem d_M_chunks_174 : decode prog_14_method_22_code 174 = .ok (.getfield 95, 3) := by decide +kernel
theorem d_M_chunks_177 : decode prog_14_method_22_code 177 = .ok (.if_icmp .lt 5, 3) := by decide +kernel
theorem d_M_chunks_180 : decode prog_14_method_22_code 180 = .ok (.iconst 0, 1) := by decide +kernel
theorem d_M_chunks_181 : decode prog_14_method_22_code 181 = .ok (.ireturn, 1) := by decide +kernel
theorem d_M_chunks_182 : decode prog_14_method_22_code 182 = .ok (.aload_n 0, 1) := by decide +kernel
theorem d_M_chunks_183 : decode prog_14_method_22_code 183 = .ok (.getfield 83, 3) := by decide +kernel
theorem d_M_chunks_186 : decode prog_14_method_22_code 186 = .ok (.aload_n 0, 1) := by decide +kernel
theorem d_M_chunks_187 : decode prog_14_method_22_code 187 = .ok (.getfield 164, 3) := by decide +kernel
theorem d_M_chunks_190 : decode prog_14_method_22_code 190 = .ok (.aload_n 0, 1) := by decide +kernel
theorem d_M_chunks_191 : decode prog_14_method_22_code 191 = .ok (.iload_n 2, 1) := by decide +kernel
theorem d_M_chunks_192 : decode prog_14_method_22_code 192 = .ok (.invokevirtual 102, 3) := by decide +kernel
theorem d_M_chunks_195 : decode prog_14_method_22_code 195 = .ok (.iastore, 1) := by decide +kernel
theorem d_M_chunks_196 : decode prog_14_method_22_code 196 = .ok (.aload_n 0, 1) := by decide +kernel
theorem d_M_chunks_197 : decode prog_14_method_22_code 197 = .ok (.dup, 1) := by decide +kernel
theorem d_M_chunks_198 : decode prog_14_method_22_code 198 = .ok (.getfield 164, 3) := by decide +kernel
theorem d_M_chunks_201 : decode prog_14_method_22_code 201 = .ok (.iconst 1, 1) := by decide +kernel
theorem d_M_chunks_202 : decode prog_14_method_22_code 202 = .ok (.iadd, 1) := by decide +kernel
theorem d_M_chunks_203 : decode prog_14_method_22_code 203 = .ok (.putfield 164, 3) := by decide +kernel
theorem d_M_chunks_206 : decode prog_14_method_22_code 206 = .ok (.iinc 2 1, 3) := by decide +kernel
theorem d_M_chunks_209 : decode prog_14_method_22_code 209 = .ok (.iinc 8 1, 3) := by decide +kernel
theorem d_M_chunks_212 : decode prog_14_method_22_code 212 = .ok (.goto (-47), 3) := by decide +kernel
theorem d_M_chunks_215 : decode prog_14_method_22_code 215 = .ok (.aload_n 0, 1) := by decide +kernel
theorem d_M_chunks_216 : decode prog_14_method_22_code 216 = .ok (.iload_n 2, 1) := by decide +kernel
theorem d_M_chunks_217 : decode prog_14_method_22_code 217 = .ok (.bipush 13, 2) := by decide +kernel
theorem d_M_chunks_219 : decode prog_14_method_22_code 219 = .ok (.invokevirtual 182, 3) := by decide +kernel
theorem d_M_chunks_222 : decode prog_14_method_22_code 222 = .ok (.iconst 1, 1) := by decide +kernel
theorem d_M_chunks_223 : decode prog_14_method_22_code 223 = .ok (.if_icmp .ne 15, 3) := by decide +kernel
theorem d_M_chunks_226 : decode prog_14_method_22_code 226 = .ok (.aload_n 0, 1) := by decide +kernel
theorem d_M_chunks_227 : decode prog_14_method_22_code 227 = .ok (.iload_n 2, 1) := by decide +kernel
theorem d_M_chunks_228 : decode prog_14_method_22_code 228 = .ok (.iconst 1, 1) := by decide +kernel
theorem d_M_chunks_229 : decode prog_14_method_22_code 229 = .ok (.iadd, 1) := by decide +kernel
theorem d_M_chunks_230 : decode prog_14_method_22_code 230 = .ok (.bipush 10, 2) := by decide +kernel
theorem d_M_chunks_232 : decode prog_14_method_22_code 232 = .ok (.invokevirtual 182, 3) := by decide +kernel
theorem d_M_chunks_235 : decode prog_14_method_22_code 235 = .ok (.goto 10, 3) := by decide +kernel
theorem d_M_chunks_238 : decode prog_14_method_22_code 238 = .ok (.aload_n 0, 1) := by decide +kernel
theorem d_M_chunks_239 : decode prog_14_method_22_code 239 = .ok (.iload_n 2, 1) := by decide +kernel
theorem d_M_chunks_240 : decode prog_14_method_22_code 240 = .ok (.bipush 13, 2) := by decide +kernel
theorem d_M_chunks_242 : decode prog_14_method_22_code 242 = .ok (.invokevirtual 182, 3) := by decide +kernel
theorem d_M_chunks_245 : decode prog_14_method_22_code 245 = .ok (.istore 8, 2) := by decide +kernel
theorem d_M_chunks_247 : decode prog_14_method_22_code 247 = .ok (.iload 8, 2) := by decide +kernel
theorem d_M_chunks_249 : decode prog_14_method_22_code 249 = .ok (.iconst 1, 1) := by decide +kernel
theorem d_M_chunks_250 : decode prog_14_method_22_code 250 = .ok (.if_icmp .ne 8, 3) := by decide +kernel
theorem d_M_chunks_253 : decode prog_14_method_22_code 253 = .ok (.iload 6, 2) := by decide +kernel
theorem d_M_chunks_255 : decode prog_14_method_22_code 255 = .ok (.ifCond .ne 6, 3) := by decide +kernel
theorem d_M_chunks_258 : decode prog_14_method_22_code 258 = .ok (.iload 8, 2) := by decide +kernel
theorem d_M_chunks_260 : decode prog_14_method_22_code 260 = .ok (.ireturn, 1) := by decide +kernel
theorem d_M_chunks_261 : decode prog_14_method_22_code 261 = .ok (.iinc 2 2, 3) := by decide +kernel
theorem d_M_chunks_264 : decode prog_14_method_22_code 264 = .ok (.iinc 4 1, 3) := by decide +kernel
theorem d_M_chunks_267 : decode prog_14_method_22_code 267 = .ok (.goto (-260), 3) := by decide +kernel
theorem d_M_chunks_270 : decode prog_14_method_22_code 270 = .ok (.sipush 400, 3) := by decide +kernel
theorem d_M_chunks_273 : decode prog_14_method_22_code 273 = .ok (.ireturn, 1) := by decide +kernel
def wq_M_chunks_245 (a : Nat) (p0 : Int32) (Q : Int32 → ab_H → Prop) (k7 : Int32 → Int32 → Int32 → ab_H → Prop) (u2 : Int32) (u3 : Int32) (u4 : Int32) (u6 : Int32) (s0 : Int32) (A : ab_H) : Prop := if s0 = (1 : Int32) then (if u6 = 0 then (Q s0 A) else (k7 (u2 + 2) u3 (u4 + 1) A)) else (Q s0 A)
set_option maxRecDepth 100000 in
set_option maxHeartbeats 4000000 in
theorem sq_M_chunks_245 {l : Launch} {G : mm_G} {a : Nat} {p0 : Int32} {Q : Int32 → ab_H → Prop} {k7 : Int32 → Int32 → Int32 → ab_H → Prop} (hk7 : ∀ (u2 : Int32) (u3 : Int32) (u4 : Int32) (A : ab_H) (h : mm_H), Vw G h A → k7 u2 u3 u4 A → mm_V l G M_M_chunks 0 0 7 [some (va_rf (some a)), some (.int p0), some (.int u2), some (.int u3), some (.int u4), none, none, none, none] [] h (wQI G Q)) : ∀ (u2 : Int32) (u3 : Int32) (u4 : Int32) (u6 : Int32) (s0 : Int32) (A : ab_H) (h : mm_H), Vw G h A → wq_M_chunks_245 a p0 Q k7 u2 u3 u4 u6 s0 A → mm_V l G M_M_chunks 0 0 245 [some (va_rf (some a)), some (.int p0), some (.int u2), some (.int u3), some (.int u4), none, some (.int u6), none, none] [.int s0] h (wQI G Q) := by
  intro u2 u3 u4 u6 s0 A h hV hw
  unfold wq_M_chunks_245 at hw
  refine mm_ist8 (pc' := 247) d_M_chunks_245 rfl rfl (Nat.le_of_ble_eq_true rfl) ?_
  refine mm_iload (pc' := 249) d_M_chunks_247 rfl rfl ?_
  refine mm_iconst (v := 1) (pc' := 250) d_M_chunks_249 rfl (by decide) ?_
  refine wr_icmp_ne hw (pc' := 253) d_M_chunks_250 rfl rfl (fun hw => ?_) (fun hw => ?_)
  · refine mm_iload (pc' := 260) d_M_chunks_258 rfl rfl ?_
    exact wr_iret hV d_M_chunks_260 rfl rfl hw
  · refine mm_iload (pc' := 255) d_M_chunks_253 rfl rfl ?_
    refine wr_if_ne hw (pc' := 258) d_M_chunks_255 rfl rfl (fun hw => ?_) (fun hw => ?_)
    · refine mm_iinc2 (v := (u2 + 2)) (pc' := 264) d_M_chunks_261 rfl rfl rfl (Nat.le_of_ble_eq_true rfl) ?_
      refine mm_iinc4 (v := (u4 + 1)) (pc' := 267) d_M_chunks_264 rfl rfl rfl (Nat.le_of_ble_eq_true rfl) ?_
      refine mm_goto (tgt := 7) d_M_chunks_267 rfl ?_
      exact mm_drop (mm_le.s (mm_le.s (mm_le.s (mm_le.s (mm_le.s (mm_le.n (mm_le.n (mm_le.n (mm_le.n mm_le.e))))))))) (hk7 _ _ _ _ _ hV hw)
    · refine mm_iload (pc' := 260) d_M_chunks_258 rfl rfl ?_
      exact wr_iret hV d_M_chunks_260 rfl rfl hw
def wq_M_chunks_215 (a : Nat) (p0 : Int32) (Q : Int32 → ab_H → Prop) (k7 : Int32 → Int32 → Int32 → ab_H → Prop) (u2 : Int32) (u3 : Int32) (u4 : Int32) (u6 : Int32) (A : ab_H) : Prop := wC A (some a) 14 (fun b => wp_M_is b u2 (13 : Int32) A (fun x1 A => if x1 = (1 : Int32) then (wC A (some a) 14 (fun b => wp_M_is b (u2 + (1 : Int32)) (10 : Int32) A (fun x3 A => wq_M_chunks_245 a p0 Q k7 u2 u3 u4 u6 x3 A))) else (wC A (some a) 14 (fun b => wp_M_is b u2 (13 : Int32) A (fun x2 A => wq_M_chunks_245 a p0 Q k7 u2 u3 u4 u6 x2 A)))))
set_option maxRecDepth 100000 in
set_option maxHeartbeats 4000000 in
theorem sq_M_chunks_215 {l : Launch} {G : mm_G} {a : Nat} {p0 : Int32} {Q : Int32 → ab_H → Prop} {k7 : Int32 → Int32 → Int32 → ab_H → Prop} (hk7 : ∀ (u2 : Int32) (u3 : Int32) (u4 : Int32) (A : ab_H) (h : mm_H), Vw G h A → k7 u2 u3 u4 A → mm_V l G M_M_chunks 0 0 7 [some (va_rf (some a)), some (.int p0), some (.int u2), some (.int u3), some (.int u4), none, none, none, none] [] h (wQI G Q)) : ∀ (u2 : Int32) (u3 : Int32) (u4 : Int32) (u6 : Int32) (A : ab_H) (h : mm_H), Vw G h A → wq_M_chunks_215 a p0 Q k7 u2 u3 u4 u6 A → mm_V l G M_M_chunks 0 0 215 [some (va_rf (some a)), some (.int p0), some (.int u2), some (.int u3), some (.int u4), none, some (.int u6), none, none] [] h (wQI G Q) := by
  intro u2 u3 u4 u6 A h hV hw
  unfold wq_M_chunks_215 at hw
  refine wr_aload_n (some a) (pc' := 216) d_M_chunks_215 rfl rfl rfl ?_
  refine mm_iload_n (pc' := 217) d_M_chunks_216 rfl rfl rfl ?_
  refine mm_bipush (v := 13) (pc' := 219) d_M_chunks_217 rfl (by decide) ?_
  refine wr_cVI (pc' := 222) (as := [.int u2, .int (13 : Int32)]) (st := []) d_M_chunks_219 rfl cs_M_182 rfl (W := fun b Q' => wp_M_is b u2 (13 : Int32) A Q') hV hw (fun b Q' hw => sd_M_is hV hw) rfl rfl (Nat.le_of_ble_eq_true rfl) (Nat.le_of_ble_eq_true rfl) (fun x1 h A hV hw => ?_)
  refine mm_iconst (v := 1) (pc' := 223) d_M_chunks_222 rfl (by decide) ?_
  refine wr_icmp_ne hw (pc' := 226) d_M_chunks_223 rfl rfl (fun hw => ?_) (fun hw => ?_)
  · refine wr_aload_n (some a) (pc' := 239) d_M_chunks_238 rfl rfl rfl ?_
    refine mm_iload_n (pc' := 240) d_M_chunks_239 rfl rfl rfl ?_
    refine mm_bipush (v := 13) (pc' := 242) d_M_chunks_240 rfl (by decide) ?_
    refine wr_cVI (pc' := 245) (as := [.int u2, .int (13 : Int32)]) (st := []) d_M_chunks_242 rfl cs_M_182 rfl (W := fun b Q' => wp_M_is b u2 (13 : Int32) A Q') hV hw (fun b Q' hw => sd_M_is hV hw) rfl rfl (Nat.le_of_ble_eq_true rfl) (Nat.le_of_ble_eq_true rfl) (fun x2 h A hV hw => ?_)
    exact mm_drop (mm_le.s (mm_le.s (mm_le.s (mm_le.s (mm_le.s (mm_le.n (mm_le.s (mm_le.n (mm_le.n mm_le.e))))))))) (sq_M_chunks_245 hk7 _ _ _ _ _ _ _ hV hw)
  · refine wr_aload_n (some a) (pc' := 227) d_M_chunks_226 rfl rfl rfl ?_
    refine mm_iload_n (pc' := 228) d_M_chunks_227 rfl rfl rfl ?_
    refine mm_iconst (v := 1) (pc' := 229) d_M_chunks_228 rfl (by decide) ?_
    refine mm_iadd (pc' := 230) d_M_chunks_229 rfl ?_
    refine mm_bipush (v := 10) (pc' := 232) d_M_chunks_230 rfl (by decide) ?_
    refine wr_cVI (pc' := 235) (as := [.int (u2 + (1 : Int32)), .int (10 : Int32)]) (st := []) d_M_chunks_232 rfl cs_M_182 rfl (W := fun b Q' => wp_M_is b (u2 + (1 : Int32)) (10 : Int32) A Q') hV hw (fun b Q' hw => sd_M_is hV hw) rfl rfl (Nat.le_of_ble_eq_true rfl) (Nat.le_of_ble_eq_true rfl) (fun x3 h A hV hw => ?_)
    refine mm_goto (tgt := 245) d_M_chunks_235 rfl ?_
    exact mm_drop (mm_le.s (mm_le.s (mm_le.s (mm_le.s (mm_le.s (mm_le.n (mm_le.s (mm_le.n (mm_le.n mm_le.e))))))))) (sq_M_chunks_245 hk7 _ _ _ _ _ _ _ hV hw)
def wb_M_chunks_165 (a : Nat) (p0 : Int32) (Q : Int32 → ab_H → Prop) (k7 : Int32 → Int32 → Int32 → ab_H → Prop) (k165 : Int32 → Int32 → Int32 → Int32 → Int32 → ab_H → Prop) (u2 : Int32) (u3 : Int32) (u4 : Int32) (u6 : Int32) (u8 : Int32) (A : ab_H) : Prop := if u6 ≤ u8 then (wq_M_chunks_215 a p0 Q k7 u2 u3 u4 u6 A) else (wgI A (some a) 14 28 (fun x4 => if u2 < x4 then (wgR A (some a) 14 33 (fun r5 => wgI A (some a) 14 32 (fun x6 => wC A (some a) 14 (fun b => wp_M_byteAt b u2 A (fun x7 A => wSI A r5 x6 x7 (fun A => wgI A (some a) 14 32 (fun x8 => wp A (some a) 14 32 (.int (x8 + (1 : Int32))) (fun A => k165 (u2 + 1) u3 u4 u6 (u8 + 1) A)))))))) else (Q (0 : Int32) A)))
def wq_M_chunks_165 (a : Nat) (p0 : Int32) (Q : Int32 → ab_H → Prop) (k7 : Int32 → Int32 → Int32 → ab_H → Prop) : Nat → Int32 → Int32 → Int32 → Int32 → Int32 → ab_H → Prop
  | 0 => fun _ _ _ _ _ _ => False
  | n + 1 => wb_M_chunks_165 a p0 Q k7 (wq_M_chunks_165 a p0 Q k7 n)
set_option maxRecDepth 100000 in
set_option maxHeartbeats 4000000 in
theorem sq_M_chunks_165 {l : Launch} {G : mm_G} {a : Nat} {p0 : Int32} {Q : Int32 → ab_H → Prop} {k7 : Int32 → Int32 → Int32 → ab_H → Prop} (hk7 : ∀ (u2 : Int32) (u3 : Int32) (u4 : Int32) (A : ab_H) (h : mm_H), Vw G h A → k7 u2 u3 u4 A → mm_V l G M_M_chunks 0 0 7 [some (va_rf (some a)), some (.int p0), some (.int u2), some (.int u3), some (.int u4), none, none, none, none] [] h (wQI G Q)) : ∀ (n : Nat) (u2 : Int32) (u3 : Int32) (u4 : Int32) (u6 : Int32) (u8 : Int32) (A : ab_H) (h : mm_H), Vw G h A → wq_M_chunks_165 a p0 Q k7 n u2 u3 u4 u6 u8 A → mm_V l G M_M_chunks 0 0 165 [some (va_rf (some a)), some (.int p0), some (.int u2), some (.int u3), some (.int u4), none, some (.int u6), none, some (.int u8)] [] h (wQI G Q) := by
  intro n
  induction n with
  | zero =>
    intro u2 u3 u4 u6 u8 A h hV hw
    exact absurd hw id
  | succ n hk165 =>
    intro u2 u3 u4 u6 u8 A h hV hw
    have hw : wb_M_chunks_165 a p0 Q k7 (wq_M_chunks_165 a p0 Q k7 n) u2 u3 u4 u6 u8 A := hw
    unfold wb_M_chunks_165 at hw
    refine mm_iload (pc' := 167) d_M_chunks_165 rfl rfl ?_
    refine mm_iload (pc' := 169) d_M_chunks_167 rfl rfl ?_
    refine wr_icmp_ge hw (pc' := 172) d_M_chunks_169 rfl rfl (fun hw => ?_) (fun hw => ?_)
    · exact mm_drop (mm_le.s (mm_le.s (mm_le.s (mm_le.s (mm_le.s (mm_le.n (mm_le.s (mm_le.n (mm_le.n mm_le.e))))))))) (sq_M_chunks_215 hk7 _ _ _ _ _ _ hV hw)
    · refine mm_iload_n (pc' := 173) d_M_chunks_172 rfl rfl rfl ?_
      refine wr_aload_n (some a) (pc' := 174) d_M_chunks_173 rfl rfl rfl ?_
      refine wr_getI hV hw (pc' := 177) d_M_chunks_174 rfl fl_M_95 (fun x4 hw => ?_)
      refine wr_icmp_lt hw (pc' := 180) d_M_chunks_177 rfl rfl (fun hw => ?_) (fun hw => ?_)
      · refine wr_aload_n (some a) (pc' := 183) d_M_chunks_182 rfl rfl rfl ?_
        refine wr_getR hV hw (pc' := 186) d_M_chunks_183 rfl fl_M_83 (fun r5 hw => ?_)
        refine wr_aload_n (some a) (pc' := 187) d_M_chunks_186 rfl rfl rfl ?_
        refine wr_getI hV hw (pc' := 190) d_M_chunks_187 rfl fl_M_164 (fun x6 hw => ?_)
        refine wr_aload_n (some a) (pc' := 191) d_M_chunks_190 rfl rfl rfl ?_
        refine mm_iload_n (pc' := 192) d_M_chunks_191 rfl rfl rfl ?_
        refine wr_cVI (pc' := 195) (as := [.int u2]) (st := [.int x6, va_rf r5]) d_M_chunks_192 rfl cs_M_102 rfl (W := fun b Q' => wp_M_byteAt b u2 A Q') hV hw (fun b Q' hw => sd_M_byteAt hV hw) rfl rfl (Nat.le_of_ble_eq_true rfl) (Nat.le_trans (wr_hI (wr_hR wr_h0)) (Nat.le_of_ble_eq_true rfl)) (fun x7 h A hV hw => ?_)
        refine wr_astI hV hw (pc' := 196) d_M_chunks_195 rfl (fun h A hV hw => ?_)
        refine wr_aload_n (some a) (pc' := 197) d_M_chunks_196 rfl rfl rfl ?_
        refine mm_dup (pc' := 198) d_M_chunks_197 rfl (wr_cat _) ?_
        refine wr_getI hV hw (pc' := 201) d_M_chunks_198 rfl fl_M_164 (fun x8 hw => ?_)
        refine mm_iconst (v := 1) (pc' := 202) d_M_chunks_201 rfl (by decide) ?_
        refine mm_iadd (pc' := 203) d_M_chunks_202 rfl ?_
        refine wr_put hV hw (pc' := 206) d_M_chunks_203 rfl pl_M_chunks_164 (Nat.le_of_ble_eq_true rfl) (wn_I _) (fun h A hV hw => ?_)
        refine mm_iinc2 (v := (u2 + 1)) (pc' := 209) d_M_chunks_206 rfl rfl rfl (Nat.le_of_ble_eq_true rfl) ?_
        refine mm_iinc8 (v := (u8 + 1)) (pc' := 212) d_M_chunks_209 rfl rfl rfl (Nat.le_of_ble_eq_true rfl) ?_
        refine mm_goto (tgt := 165) d_M_chunks_212 rfl ?_
        exact mm_drop (mm_le.s (mm_le.s (mm_le.s (mm_le.s (mm_le.s (mm_le.n (mm_le.s (mm_le.n (mm_le.s mm_le.e))))))))) (hk165 _ _ _ _ _ _ _ hV hw)
      · refine mm_iconst (v := 0) (pc' := 181) d_M_chunks_180 rfl (by decide) ?_
        exact wr_iret hV d_M_chunks_181 rfl rfl hw
def wq_M_chunks_133 (a : Nat) (p0 : Int32) (Q : Int32 → ab_H → Prop) (k7 : Int32 → Int32 → Int32 → ab_H → Prop) (u2 : Int32) (u3 : Int32) (u4 : Int32) (u6 : Int32) (s0 : Int32) (A : ab_H) : Prop := if s0 = (1 : Int32) then (wL ((u3 + u6)) (fun x9 => if x9 ≤ (40 : Int32) then (∃ n, wq_M_chunks_165 a p0 Q k7 n (u2 + 2) x9 u4 u6 (0 : Int32) A) else (Q (413 : Int32) A))) else (Q s0 A)
set_option maxRecDepth 100000 in
set_option maxHeartbeats 4000000 in
theorem sq_M_chunks_133 {l : Launch} {G : mm_G} {a : Nat} {p0 : Int32} {Q : Int32 → ab_H → Prop} {k7 : Int32 → Int32 → Int32 → ab_H → Prop} (hk7 : ∀ (u2 : Int32) (u3 : Int32) (u4 : Int32) (A : ab_H) (h : mm_H), Vw G h A → k7 u2 u3 u4 A → mm_V l G M_M_chunks 0 0 7 [some (va_rf (some a)), some (.int p0), some (.int u2), some (.int u3), some (.int u4), none, none, none, none] [] h (wQI G Q)) : ∀ (u2 : Int32) (u3 : Int32) (u4 : Int32) (u6 : Int32) (s0 : Int32) (A : ab_H) (h : mm_H), Vw G h A → wq_M_chunks_133 a p0 Q k7 u2 u3 u4 u6 s0 A → mm_V l G M_M_chunks 0 0 133 [some (va_rf (some a)), some (.int p0), some (.int u2), some (.int u3), some (.int u4), none, some (.int u6), none, none] [.int s0] h (wQI G Q) := by
  intro u2 u3 u4 u6 s0 A h hV hw
  unfold wq_M_chunks_133 at hw
  refine mm_ist7 (pc' := 135) d_M_chunks_133 rfl rfl (Nat.le_of_ble_eq_true rfl) ?_
  refine mm_iload (pc' := 137) d_M_chunks_135 rfl rfl ?_
  refine mm_iconst (v := 1) (pc' := 138) d_M_chunks_137 rfl (by decide) ?_
  refine wr_icmp_eq hw (pc' := 141) d_M_chunks_138 rfl rfl (fun hw => ?_) (fun hw => ?_)
  · refine mm_iinc2 (v := (u2 + 2)) (pc' := 147) d_M_chunks_144 rfl rfl rfl (Nat.le_of_ble_eq_true rfl) ?_
    refine mm_iload_n (pc' := 148) d_M_chunks_147 rfl rfl rfl ?_
    refine mm_iload (pc' := 150) d_M_chunks_148 rfl rfl ?_
    refine mm_iadd (pc' := 151) d_M_chunks_150 rfl ?_
    refine wr_let (P := fun z => mm_V l G M_M_chunks 0 0 151 [some (va_rf (some a)), some (.int p0), some (.int (u2 + 2)), some (.int u3), some (.int u4), none, some (.int u6), some (.int s0), none] (.int z :: []) h _) hw (fun x9 hw => ?_)
    refine mm_ist3 (pc' := 152) d_M_chunks_151 rfl rfl (Nat.le_of_ble_eq_true rfl) ?_
    refine mm_iload_n (pc' := 153) d_M_chunks_152 rfl rfl rfl ?_
    refine mm_bipush (v := 40) (pc' := 155) d_M_chunks_153 rfl (by decide) ?_
    refine wr_icmp_le hw (pc' := 158) d_M_chunks_155 rfl rfl (fun hw => ?_) (fun hw => ?_)
    · refine mm_iconst (v := 0) (pc' := 163) d_M_chunks_162 rfl (by decide) ?_
      refine mm_ist8 (pc' := 165) d_M_chunks_163 rfl rfl (Nat.le_of_ble_eq_true rfl) ?_
      obtain ⟨n, hw⟩ := hw
      exact mm_drop (mm_le.s (mm_le.s (mm_le.s (mm_le.s (mm_le.s (mm_le.n (mm_le.s (mm_le.n (mm_le.s mm_le.e))))))))) (sq_M_chunks_165 hk7 n _ _ _ _ _ _ _ hV hw)
    · refine mm_sipush (v := 413) (pc' := 161) d_M_chunks_158 rfl (by decide) ?_
      exact wr_iret hV d_M_chunks_161 rfl rfl hw
  · refine mm_iload (pc' := 143) d_M_chunks_141 rfl rfl ?_
    exact wr_iret hV d_M_chunks_143 rfl rfl hw
def wq_M_chunks_103 (a : Nat) (p0 : Int32) (Q : Int32 → ab_H → Prop) (k7 : Int32 → Int32 → Int32 → ab_H → Prop) (u2 : Int32) (u3 : Int32) (u4 : Int32) (u6 : Int32) (A : ab_H) : Prop := wC A (some a) 14 (fun b => wp_M_is b u2 (13 : Int32) A (fun x10 A => if x10 = (1 : Int32) then (wC A (some a) 14 (fun b => wp_M_is b (u2 + (1 : Int32)) (10 : Int32) A (fun x12 A => wq_M_chunks_133 a p0 Q k7 u2 u3 u4 u6 x12 A))) else (wC A (some a) 14 (fun b => wp_M_is b u2 (13 : Int32) A (fun x11 A => wq_M_chunks_133 a p0 Q k7 u2 u3 u4 u6 x11 A)))))
set_option maxRecDepth 100000 in
set_option maxHeartbeats 4000000 in
theorem sq_M_chunks_103 {l : Launch} {G : mm_G} {a : Nat} {p0 : Int32} {Q : Int32 → ab_H → Prop} {k7 : Int32 → Int32 → Int32 → ab_H → Prop} (hk7 : ∀ (u2 : Int32) (u3 : Int32) (u4 : Int32) (A : ab_H) (h : mm_H), Vw G h A → k7 u2 u3 u4 A → mm_V l G M_M_chunks 0 0 7 [some (va_rf (some a)), some (.int p0), some (.int u2), some (.int u3), some (.int u4), none, none, none, none] [] h (wQI G Q)) : ∀ (u2 : Int32) (u3 : Int32) (u4 : Int32) (u6 : Int32) (A : ab_H) (h : mm_H), Vw G h A → wq_M_chunks_103 a p0 Q k7 u2 u3 u4 u6 A → mm_V l G M_M_chunks 0 0 103 [some (va_rf (some a)), some (.int p0), some (.int u2), some (.int u3), some (.int u4), none, some (.int u6), none, none] [] h (wQI G Q) := by
  intro u2 u3 u4 u6 A h hV hw
  unfold wq_M_chunks_103 at hw
  refine wr_aload_n (some a) (pc' := 104) d_M_chunks_103 rfl rfl rfl ?_
  refine mm_iload_n (pc' := 105) d_M_chunks_104 rfl rfl rfl ?_
  refine mm_bipush (v := 13) (pc' := 107) d_M_chunks_105 rfl (by decide) ?_
  refine wr_cVI (pc' := 110) (as := [.int u2, .int (13 : Int32)]) (st := []) d_M_chunks_107 rfl cs_M_182 rfl (W := fun b Q' => wp_M_is b u2 (13 : Int32) A Q') hV hw (fun b Q' hw => sd_M_is hV hw) rfl rfl (Nat.le_of_ble_eq_true rfl) (Nat.le_of_ble_eq_true rfl) (fun x10 h A hV hw => ?_)
  refine mm_iconst (v := 1) (pc' := 111) d_M_chunks_110 rfl (by decide) ?_
  refine wr_icmp_ne hw (pc' := 114) d_M_chunks_111 rfl rfl (fun hw => ?_) (fun hw => ?_)
  · refine wr_aload_n (some a) (pc' := 127) d_M_chunks_126 rfl rfl rfl ?_
    refine mm_iload_n (pc' := 128) d_M_chunks_127 rfl rfl rfl ?_
    refine mm_bipush (v := 13) (pc' := 130) d_M_chunks_128 rfl (by decide) ?_
    refine wr_cVI (pc' := 133) (as := [.int u2, .int (13 : Int32)]) (st := []) d_M_chunks_130 rfl cs_M_182 rfl (W := fun b Q' => wp_M_is b u2 (13 : Int32) A Q') hV hw (fun b Q' hw => sd_M_is hV hw) rfl rfl (Nat.le_of_ble_eq_true rfl) (Nat.le_of_ble_eq_true rfl) (fun x11 h A hV hw => ?_)
    exact mm_drop (mm_le.s (mm_le.s (mm_le.s (mm_le.s (mm_le.s (mm_le.n (mm_le.s (mm_le.n (mm_le.n mm_le.e))))))))) (sq_M_chunks_133 hk7 _ _ _ _ _ _ _ hV hw)
  · refine wr_aload_n (some a) (pc' := 115) d_M_chunks_114 rfl rfl rfl ?_
    refine mm_iload_n (pc' := 116) d_M_chunks_115 rfl rfl rfl ?_
    refine mm_iconst (v := 1) (pc' := 117) d_M_chunks_116 rfl (by decide) ?_
    refine mm_iadd (pc' := 118) d_M_chunks_117 rfl ?_
    refine mm_bipush (v := 10) (pc' := 120) d_M_chunks_118 rfl (by decide) ?_
    refine wr_cVI (pc' := 123) (as := [.int (u2 + (1 : Int32)), .int (10 : Int32)]) (st := []) d_M_chunks_120 rfl cs_M_182 rfl (W := fun b Q' => wp_M_is b (u2 + (1 : Int32)) (10 : Int32) A Q') hV hw (fun b Q' hw => sd_M_is hV hw) rfl rfl (Nat.le_of_ble_eq_true rfl) (Nat.le_of_ble_eq_true rfl) (fun x12 h A hV hw => ?_)
    refine mm_goto (tgt := 133) d_M_chunks_123 rfl ?_
    exact mm_drop (mm_le.s (mm_le.s (mm_le.s (mm_le.s (mm_le.s (mm_le.n (mm_le.s (mm_le.n (mm_le.n mm_le.e))))))))) (sq_M_chunks_133 hk7 _ _ _ _ _ _ _ hV hw)
def wq_M_chunks_86 (a : Nat) (p0 : Int32) (Q : Int32 → ab_H → Prop) (k7 : Int32 → Int32 → Int32 → ab_H → Prop) (u2 : Int32) (u3 : Int32) (u4 : Int32) (u5 : Int32) (u6 : Int32) (A : ab_H) : Prop := wgI A (some a) 14 28 (fun x13 => if x13 ≤ u2 then (wq_M_chunks_103 a p0 Q k7 u2 u3 u4 u6 A) else (if u5 = 0 then (Q (400 : Int32) A) else (wq_M_chunks_103 a p0 Q k7 u2 u3 u4 u6 A)))
set_option maxRecDepth 100000 in
set_option maxHeartbeats 4000000 in
theorem sq_M_chunks_86 {l : Launch} {G : mm_G} {a : Nat} {p0 : Int32} {Q : Int32 → ab_H → Prop} {k7 : Int32 → Int32 → Int32 → ab_H → Prop} (hk7 : ∀ (u2 : Int32) (u3 : Int32) (u4 : Int32) (A : ab_H) (h : mm_H), Vw G h A → k7 u2 u3 u4 A → mm_V l G M_M_chunks 0 0 7 [some (va_rf (some a)), some (.int p0), some (.int u2), some (.int u3), some (.int u4), none, none, none, none] [] h (wQI G Q)) : ∀ (u2 : Int32) (u3 : Int32) (u4 : Int32) (u5 : Int32) (u6 : Int32) (A : ab_H) (h : mm_H), Vw G h A → wq_M_chunks_86 a p0 Q k7 u2 u3 u4 u5 u6 A → mm_V l G M_M_chunks 0 0 86 [some (va_rf (some a)), some (.int p0), some (.int u2), some (.int u3), some (.int u4), some (.int u5), some (.int u6), none, none] [] h (wQI G Q) := by
  intro u2 u3 u4 u5 u6 A h hV hw
  unfold wq_M_chunks_86 at hw
  refine mm_iload_n (pc' := 87) d_M_chunks_86 rfl rfl rfl ?_
  refine wr_aload_n (some a) (pc' := 88) d_M_chunks_87 rfl rfl rfl ?_
  refine wr_getI hV hw (pc' := 91) d_M_chunks_88 rfl fl_M_95 (fun x13 hw => ?_)
  refine wr_icmp_ge hw (pc' := 94) d_M_chunks_91 rfl rfl (fun hw => ?_) (fun hw => ?_)
  · exact mm_drop (mm_le.s (mm_le.s (mm_le.s (mm_le.s (mm_le.s (mm_le.n (mm_le.s (mm_le.n (mm_le.n mm_le.e))))))))) (sq_M_chunks_103 hk7 _ _ _ _ _ _ hV hw)
  · refine mm_iload (pc' := 96) d_M_chunks_94 rfl rfl ?_
    refine wr_if_ne hw (pc' := 99) d_M_chunks_96 rfl rfl (fun hw => ?_) (fun hw => ?_)
    · exact mm_drop (mm_le.s (mm_le.s (mm_le.s (mm_le.s (mm_le.s (mm_le.n (mm_le.s (mm_le.n (mm_le.n mm_le.e))))))))) (sq_M_chunks_103 hk7 _ _ _ _ _ _ hV hw)
    · refine mm_sipush (v := 400) (pc' := 102) d_M_chunks_99 rfl (by decide) ?_
      exact wr_iret hV d_M_chunks_102 rfl rfl hw
def wb_M_chunks_20 (a : Nat) (p0 : Int32) (Q : Int32 → ab_H → Prop) (k7 : Int32 → Int32 → Int32 → ab_H → Prop) (k20 : Int32 → Int32 → Int32 → Int32 → Int32 → ab_H → Prop) (u2 : Int32) (u3 : Int32) (u4 : Int32) (u5 : Int32) (u6 : Int32) (A : ab_H) : Prop := if (2 : Int32) ≤ u5 then (wq_M_chunks_86 a p0 Q k7 u2 u3 u4 u5 u6 A) else (wgI A (some a) 14 28 (fun x14 => if x14 ≤ u2 then (wq_M_chunks_86 a p0 Q k7 u2 u3 u4 u5 u6 A) else (wC A (some a) 14 (fun b => wp_M_byteAt b u2 A (fun x15 A => wp_M_hex x15 A (fun x16 A => if x16 < 0 then (wq_M_chunks_86 a p0 Q k7 u2 u3 u4 u5 u6 A) else (wC A (some a) 14 (fun b => wp_M_byteAt b u2 A (fun x17 A => wC A (some a) 14 (fun b => wp_M_byteAt b u2 A (fun x18 A => wp_M_small x18 A (fun x19 A => if x17 = x19 then (wC A (some a) 14 (fun b => wp_M_byteAt b u2 A (fun x20 A => wp_M_hex x20 A (fun x21 A => wL ((((16 : Int32) * u6) + x21)) (fun x22 => k20 (u2 + 1) u3 u4 (u5 + 1) x22 A))))) else (wq_M_chunks_86 a p0 Q k7 u2 u3 u4 u5 u6 A)))))))))))))
def wq_M_chunks_20 (a : Nat) (p0 : Int32) (Q : Int32 → ab_H → Prop) (k7 : Int32 → Int32 → Int32 → ab_H → Prop) : Nat → Int32 → Int32 → Int32 → Int32 → Int32 → ab_H → Prop
  | 0 => fun _ _ _ _ _ _ => False
  | n + 1 => wb_M_chunks_20 a p0 Q k7 (wq_M_chunks_20 a p0 Q k7 n)
set_option maxRecDepth 100000 in
set_option maxHeartbeats 4000000 in
theorem sq_M_chunks_20 {l : Launch} {G : mm_G} {a : Nat} {p0 : Int32} {Q : Int32 → ab_H → Prop} {k7 : Int32 → Int32 → Int32 → ab_H → Prop} (hk7 : ∀ (u2 : Int32) (u3 : Int32) (u4 : Int32) (A : ab_H) (h : mm_H), Vw G h A → k7 u2 u3 u4 A → mm_V l G M_M_chunks 0 0 7 [some (va_rf (some a)), some (.int p0), some (.int u2), some (.int u3), some (.int u4), none, none, none, none] [] h (wQI G Q)) : ∀ (n : Nat) (u2 : Int32) (u3 : Int32) (u4 : Int32) (u5 : Int32) (u6 : Int32) (A : ab_H) (h : mm_H), Vw G h A → wq_M_chunks_20 a p0 Q k7 n u2 u3 u4 u5 u6 A → mm_V l G M_M_chunks 0 0 20 [some (va_rf (some a)), some (.int p0), some (.int u2), some (.int u3), some (.int u4), some (.int u5), some (.int u6), none, none] [] h (wQI G Q) := by
  intro n
  induction n with
  | zero =>
    intro u2 u3 u4 u5 u6 A h hV hw
    exact absurd hw id
  | succ n hk20 =>
    intro u2 u3 u4 u5 u6 A h hV hw
    have hw : wb_M_chunks_20 a p0 Q k7 (wq_M_chunks_20 a p0 Q k7 n) u2 u3 u4 u5 u6 A := hw
    unfold wb_M_chunks_20 at hw
    refine mm_iload (pc' := 22) d_M_chunks_20 rfl rfl ?_
    refine mm_iconst (v := 2) (pc' := 23) d_M_chunks_22 rfl (by decide) ?_
    refine wr_icmp_ge hw (pc' := 26) d_M_chunks_23 rfl rfl (fun hw => ?_) (fun hw => ?_)
    · exact mm_drop (mm_le.s (mm_le.s (mm_le.s (mm_le.s (mm_le.s (mm_le.s (mm_le.s (mm_le.n (mm_le.n mm_le.e))))))))) (sq_M_chunks_86 hk7 _ _ _ _ _ _ _ hV hw)
    · refine mm_iload_n (pc' := 27) d_M_chunks_26 rfl rfl rfl ?_
      refine wr_aload_n (some a) (pc' := 28) d_M_chunks_27 rfl rfl rfl ?_
      refine wr_getI hV hw (pc' := 31) d_M_chunks_28 rfl fl_M_95 (fun x14 hw => ?_)
      refine wr_icmp_ge hw (pc' := 34) d_M_chunks_31 rfl rfl (fun hw => ?_) (fun hw => ?_)
      · exact mm_drop (mm_le.s (mm_le.s (mm_le.s (mm_le.s (mm_le.s (mm_le.s (mm_le.s (mm_le.n (mm_le.n mm_le.e))))))))) (sq_M_chunks_86 hk7 _ _ _ _ _ _ _ hV hw)
      · refine wr_aload_n (some a) (pc' := 35) d_M_chunks_34 rfl rfl rfl ?_
        refine mm_iload_n (pc' := 36) d_M_chunks_35 rfl rfl rfl ?_
        refine wr_cVI (pc' := 39) (as := [.int u2]) (st := []) d_M_chunks_36 rfl cs_M_102 rfl (W := fun b Q' => wp_M_byteAt b u2 A Q') hV hw (fun b Q' hw => sd_M_byteAt hV hw) rfl rfl (Nat.le_of_ble_eq_true rfl) (Nat.le_of_ble_eq_true rfl) (fun x15 h A hV hw => ?_)
        refine wr_cSI (pc' := 42) (as := [.int x15]) (st := []) d_M_chunks_39 rfl cs_M_106 (sd_M_hex hV hw) rfl rfl (Nat.le_of_ble_eq_true rfl) (Nat.le_of_ble_eq_true rfl) (fun x16 h A hV hw => ?_)
        refine wr_if_lt hw (pc' := 45) d_M_chunks_42 rfl rfl (fun hw => ?_) (fun hw => ?_)
        · exact mm_drop (mm_le.s (mm_le.s (mm_le.s (mm_le.s (mm_le.s (mm_le.s (mm_le.s (mm_le.n (mm_le.n mm_le.e))))))))) (sq_M_chunks_86 hk7 _ _ _ _ _ _ _ hV hw)
        · refine wr_aload_n (some a) (pc' := 46) d_M_chunks_45 rfl rfl rfl ?_
          refine mm_iload_n (pc' := 47) d_M_chunks_46 rfl rfl rfl ?_
          refine wr_cVI (pc' := 50) (as := [.int u2]) (st := []) d_M_chunks_47 rfl cs_M_102 rfl (W := fun b Q' => wp_M_byteAt b u2 A Q') hV hw (fun b Q' hw => sd_M_byteAt hV hw) rfl rfl (Nat.le_of_ble_eq_true rfl) (Nat.le_of_ble_eq_true rfl) (fun x17 h A hV hw => ?_)
          refine wr_aload_n (some a) (pc' := 51) d_M_chunks_50 rfl rfl rfl ?_
          refine mm_iload_n (pc' := 52) d_M_chunks_51 rfl rfl rfl ?_
          refine wr_cVI (pc' := 55) (as := [.int u2]) (st := [.int x17]) d_M_chunks_52 rfl cs_M_102 rfl (W := fun b Q' => wp_M_byteAt b u2 A Q') hV hw (fun b Q' hw => sd_M_byteAt hV hw) rfl rfl (Nat.le_of_ble_eq_true rfl) (Nat.le_of_ble_eq_true rfl) (fun x18 h A hV hw => ?_)
          refine wr_cSI (pc' := 58) (as := [.int x18]) (st := [.int x17]) d_M_chunks_55 rfl cs_M_127 (sd_M_small hV hw) rfl rfl (Nat.le_of_ble_eq_true rfl) (Nat.le_of_ble_eq_true rfl) (fun x19 h A hV hw => ?_)
          refine wr_icmp_ne hw (pc' := 61) d_M_chunks_58 rfl rfl (fun hw => ?_) (fun hw => ?_)
          · exact mm_drop (mm_le.s (mm_le.s (mm_le.s (mm_le.s (mm_le.s (mm_le.s (mm_le.s (mm_le.n (mm_le.n mm_le.e))))))))) (sq_M_chunks_86 hk7 _ _ _ _ _ _ _ hV hw)
          · refine mm_bipush (v := 16) (pc' := 63) d_M_chunks_61 rfl (by decide) ?_
            refine mm_iload (pc' := 65) d_M_chunks_63 rfl rfl ?_
            refine mm_imul (pc' := 66) d_M_chunks_65 rfl ?_
            refine wr_aload_n (some a) (pc' := 67) d_M_chunks_66 rfl rfl rfl ?_
            refine mm_iload_n (pc' := 68) d_M_chunks_67 rfl rfl rfl ?_
            refine wr_cVI (pc' := 71) (as := [.int u2]) (st := [.int ((16 : Int32) * u6)]) d_M_chunks_68 rfl cs_M_102 rfl (W := fun b Q' => wp_M_byteAt b u2 A Q') hV hw (fun b Q' hw => sd_M_byteAt hV hw) rfl rfl (Nat.le_of_ble_eq_true rfl) (Nat.le_of_ble_eq_true rfl) (fun x20 h A hV hw => ?_)
            refine wr_cSI (pc' := 74) (as := [.int x20]) (st := [.int ((16 : Int32) * u6)]) d_M_chunks_71 rfl cs_M_106 (sd_M_hex hV hw) rfl rfl (Nat.le_of_ble_eq_true rfl) (Nat.le_of_ble_eq_true rfl) (fun x21 h A hV hw => ?_)
            refine mm_iadd (pc' := 75) d_M_chunks_74 rfl ?_
            refine wr_let (P := fun z => mm_V l G M_M_chunks 0 0 75 [some (va_rf (some a)), some (.int p0), some (.int u2), some (.int u3), some (.int u4), some (.int u5), some (.int u6), none, none] (.int z :: []) h _) hw (fun x22 hw => ?_)
            refine mm_ist6 (pc' := 77) d_M_chunks_75 rfl rfl (Nat.le_of_ble_eq_true rfl) ?_
            refine mm_iinc5 (v := (u5 + 1)) (pc' := 80) d_M_chunks_77 rfl rfl rfl (Nat.le_of_ble_eq_true rfl) ?_
            refine mm_iinc2 (v := (u2 + 1)) (pc' := 83) d_M_chunks_80 rfl rfl rfl (Nat.le_of_ble_eq_true rfl) ?_
            refine mm_goto (tgt := 20) d_M_chunks_83 rfl ?_
            exact mm_drop (mm_le.s (mm_le.s (mm_le.s (mm_le.s (mm_le.s (mm_le.s (mm_le.s (mm_le.n (mm_le.n mm_le.e))))))))) (hk20 _ _ _ _ _ _ _ hV hw)
def wb_M_chunks_7 (a : Nat) (p0 : Int32) (Q : Int32 → ab_H → Prop)  (k7 : Int32 → Int32 → Int32 → ab_H → Prop) (u2 : Int32) (u3 : Int32) (u4 : Int32) (A : ab_H) : Prop := if (100 : Int32) ≤ u4 then (Q (400 : Int32) A) else (∃ n, wq_M_chunks_20 a p0 Q k7 n u2 u3 u4 (0 : Int32) (0 : Int32) A)
def wq_M_chunks_7 (a : Nat) (p0 : Int32) (Q : Int32 → ab_H → Prop)  : Nat → Int32 → Int32 → Int32 → ab_H → Prop
  | 0 => fun _ _ _ _ => False
  | n + 1 => wb_M_chunks_7 a p0 Q  (wq_M_chunks_7 a p0 Q  n)
set_option maxRecDepth 100000 in
set_option maxHeartbeats 4000000 in
theorem sq_M_chunks_7 {l : Launch} {G : mm_G} {a : Nat} {p0 : Int32} {Q : Int32 → ab_H → Prop}   : ∀ (n : Nat) (u2 : Int32) (u3 : Int32) (u4 : Int32) (A : ab_H) (h : mm_H), Vw G h A → wq_M_chunks_7 a p0 Q  n u2 u3 u4 A → mm_V l G M_M_chunks 0 0 7 [some (va_rf (some a)), some (.int p0), some (.int u2), some (.int u3), some (.int u4), none, none, none, none] [] h (wQI G Q) := by
  intro n
  induction n with
  | zero =>
    intro u2 u3 u4 A h hV hw
    exact absurd hw id
  | succ n hk7 =>
    intro u2 u3 u4 A h hV hw
    have hw : wb_M_chunks_7 a p0 Q  (wq_M_chunks_7 a p0 Q  n) u2 u3 u4 A := hw
    unfold wb_M_chunks_7 at hw
    refine mm_iload (pc' := 9) d_M_chunks_7 rfl rfl ?_
    refine mm_bipush (v := 100) (pc' := 11) d_M_chunks_9 rfl (by decide) ?_
    refine wr_icmp_ge hw (pc' := 14) d_M_chunks_11 rfl rfl (fun hw => ?_) (fun hw => ?_)
    · refine mm_sipush (v := 400) (pc' := 273) d_M_chunks_270 rfl (by decide) ?_
      exact wr_iret hV d_M_chunks_273 rfl rfl hw
    · refine mm_iconst (v := 0) (pc' := 15) d_M_chunks_14 rfl (by decide) ?_
      refine mm_ist5 (pc' := 17) d_M_chunks_15 rfl rfl (Nat.le_of_ble_eq_true rfl) ?_
      refine mm_iconst (v := 0) (pc' := 18) d_M_chunks_17 rfl (by decide) ?_
      refine mm_ist6 (pc' := 20) d_M_chunks_18 rfl rfl (Nat.le_of_ble_eq_true rfl) ?_
      obtain ⟨n, hw⟩ := hw
      exact mm_drop (mm_le.s (mm_le.s (mm_le.s (mm_le.s (mm_le.s (mm_le.s (mm_le.s (mm_le.n (mm_le.n mm_le.e))))))))) (sq_M_chunks_20 hk7 n _ _ _ _ _ _ _ hV hw)
def wp_M_chunks (a : Nat) (p0 : Int32) (A : ab_H) (Q : Int32 → ab_H → Prop) : Prop := ∃ n, wq_M_chunks_7 a p0 Q n p0 (0 : Int32) (0 : Int32) A
set_option maxRecDepth 100000 in
set_option maxHeartbeats 4000000 in
theorem sd_M_chunks {l : Launch} {G : mm_G} {h : mm_H} {A : ab_H} {a : Nat} {p0 : Int32} {Q : Int32 → ab_H → Prop} (hV : Vw G h A) (hw : wp_M_chunks a p0 A Q) : mm_S l G M_M_chunks [.ref a, .int p0] h 0 0 (wQI G Q) := by
  unfold wp_M_chunks at hw
  refine mm_start rfl (Nat.le_of_ble_eq_true rfl) ?_
  show mm_V l G M_M_chunks 0 0 0 [some (va_rf (some a)), some (.int p0), none, none, none, none, none, none, none] [] h _
  refine mm_iload_n (pc' := 1) d_M_chunks_0 rfl rfl rfl ?_
  refine mm_ist2 (pc' := 2) d_M_chunks_1 rfl rfl (Nat.le_of_ble_eq_true rfl) ?_
  refine mm_iconst (v := 0) (pc' := 3) d_M_chunks_2 rfl (by decide) ?_
  refine mm_ist3 (pc' := 4) d_M_chunks_3 rfl rfl (Nat.le_of_ble_eq_true rfl) ?_
  refine mm_iconst (v := 0) (pc' := 5) d_M_chunks_4 rfl (by decide) ?_
  refine mm_ist4 (pc' := 7) d_M_chunks_5 rfl rfl (Nat.le_of_ble_eq_true rfl) ?_
  obtain ⟨n, hw⟩ := hw
  exact mm_drop (mm_le.s (mm_le.s (mm_le.s (mm_le.s (mm_le.s (mm_le.n (mm_le.n (mm_le.n (mm_le.n mm_le.e))))))))) (sq_M_chunks_7  n _ _ _ _ _ hV hw)
theorem d_M_plain_0 : decode prog_14_method_20_code 0 = .ok (.iconst 0, 1) := by decide +kernel
theorem d_M_plain_1 : decode prog_14_method_20_code 1 = .ok (.istore_n 2, 1) := by decide +kernel
theorem d_M_plain_2 : decode prog_14_method_20_code 2 = .ok (.iload_n 2, 1) := by decide +kernel
theorem d_M_plain_3 : decode prog_14_method_20_code 3 = .ok (.aload_n 0, 1) := by decide +kernel
theorem d_M_plain_4 : decode prog_14_method_20_code 4 = .ok (.getfield 151, 3) := by decide +kernel
theorem d_M_plain_7 : decode prog_14_method_20_code 7 = .ok (.if_icmp .ge 47, 3) := by decide +kernel
theorem d_M_plain_10 : decode prog_14_method_20_code 10 = .ok (.iload_n 1, 1) := by decide +kernel
theorem d_M_plain_11 : decode prog_14_method_20_code 11 = .ok (.iload_n 2, 1) := by decide +kernel
theorem d_M_plain_12 : decode prog_14_method_20_code 12 = .ok (.iadd, 1) := by decide +kernel
theorem d_M_plain_13 : decode prog_14_method_20_code 13 = .ok (.aload_n 0, 1) := by decide +kernel
theorem d_M_plain_14 : decode prog_14_method_20_code 14 = .ok (.getfield 95, 3) := by decide +kernel
theorem d_M_plain_17 : decode prog_14_method_20_code 17 = .ok (.if_icmp .lt 5, 3) := by decide +kernel
theorem d_M_plain_20 : decode prog_14_method_20_code 20 = .ok (.iconst 0, 1) := by decide +kernel
theorem d_M_plain_21 : decode prog_14_method_20_code 21 = .ok (.ireturn, 1) := by decide +kernel
theorem d_M_plain_22 : decode prog_14_method_20_code 22 = .ok (.aload_n 0, 1) := by decide +kernel
theorem d_M_plain_23 : decode prog_14_method_20_code 23 = .ok (.getfield 83, 3) := by decide +kernel
theorem d_M_plain_26 : decode prog_14_method_20_code 26 = .ok (.aload_n 0, 1) := by decide +kernel
theorem d_M_plain_27 : decode prog_14_method_20_code 27 = .ok (.getfield 164, 3) := by decide +kernel
theorem d_M_plain_30 : decode prog_14_method_20_code 30 = .ok (.aload_n 0, 1) := by decide +kernel
theorem d_M_plain_31 : decode prog_14_method_20_code 31 = .ok (.iload_n 1, 1) := by decide +kernel
theorem d_M_plain_32 : decode prog_14_method_20_code 32 = .ok (.iload_n 2, 1) := by decide +kernel
theorem d_M_plain_33 : decode prog_14_method_20_code 33 = .ok (.iadd, 1) := by decide +kernel
theorem d_M_plain_34 : decode prog_14_method_20_code 34 = .ok (.invokevirtual 102, 3) := by decide +kernel
theorem d_M_plain_37 : decode prog_14_method_20_code 37 = .ok (.iastore, 1) := by decide +kernel
theorem d_M_plain_38 : decode prog_14_method_20_code 38 = .ok (.aload_n 0, 1) := by decide +kernel
theorem d_M_plain_39 : decode prog_14_method_20_code 39 = .ok (.dup, 1) := by decide +kernel
theorem d_M_plain_40 : decode prog_14_method_20_code 40 = .ok (.getfield 164, 3) := by decide +kernel
theorem d_M_plain_43 : decode prog_14_method_20_code 43 = .ok (.iconst 1, 1) := by decide +kernel
theorem d_M_plain_44 : decode prog_14_method_20_code 44 = .ok (.iadd, 1) := by decide +kernel
theorem d_M_plain_45 : decode prog_14_method_20_code 45 = .ok (.putfield 164, 3) := by decide +kernel
theorem d_M_plain_48 : decode prog_14_method_20_code 48 = .ok (.iinc 2 1, 3) := by decide +kernel
theorem d_M_plain_51 : decode prog_14_method_20_code 51 = .ok (.goto (-49), 3) := by decide +kernel
theorem d_M_plain_54 : decode prog_14_method_20_code 54 = .ok (.iconst 1, 1) := by decide +kernel
theorem d_M_plain_55 : decode prog_14_method_20_code 55 = .ok (.ireturn, 1) := by decide +kernel
def wb_M_plain_2 (a : Nat) (p0 : Int32) (Q : Int32 → ab_H → Prop)  (k2 : Int32 → ab_H → Prop) (u2 : Int32) (A : ab_H) : Prop := wgI A (some a) 14 35 (fun x1 => if x1 ≤ u2 then (Q (1 : Int32) A) else (wgI A (some a) 14 28 (fun x2 => if (p0 + u2) < x2 then (wgR A (some a) 14 33 (fun r3 => wgI A (some a) 14 32 (fun x4 => wC A (some a) 14 (fun b => wp_M_byteAt b (p0 + u2) A (fun x5 A => wSI A r3 x4 x5 (fun A => wgI A (some a) 14 32 (fun x6 => wp A (some a) 14 32 (.int (x6 + (1 : Int32))) (fun A => k2 (u2 + 1) A)))))))) else (Q (0 : Int32) A))))
def wq_M_plain_2 (a : Nat) (p0 : Int32) (Q : Int32 → ab_H → Prop)  : Nat → Int32 → ab_H → Prop
  | 0 => fun _ _ => False
  | n + 1 => wb_M_plain_2 a p0 Q  (wq_M_plain_2 a p0 Q  n)
set_option maxRecDepth 100000 in
set_option maxHeartbeats 4000000 in
theorem sq_M_plain_2 {l : Launch} {G : mm_G} {a : Nat} {p0 : Int32} {Q : Int32 → ab_H → Prop}   : ∀ (n : Nat) (u2 : Int32) (A : ab_H) (h : mm_H), Vw G h A → wq_M_plain_2 a p0 Q  n u2 A → mm_V l G M_M_plain 0 0 2 [some (va_rf (some a)), some (.int p0), some (.int u2)] [] h (wQI G Q) := by
  intro n
  induction n with
  | zero =>
    intro u2 A h hV hw
    exact absurd hw id
  | succ n hk2 =>
    intro u2 A h hV hw
    have hw : wb_M_plain_2 a p0 Q  (wq_M_plain_2 a p0 Q  n) u2 A := hw
    unfold wb_M_plain_2 at hw
    refine mm_iload_n (pc' := 3) d_M_plain_2 rfl rfl rfl ?_
    refine wr_aload_n (some a) (pc' := 4) d_M_plain_3 rfl rfl rfl ?_
    refine wr_getI hV hw (pc' := 7) d_M_plain_4 rfl fl_M_151 (fun x1 hw => ?_)
    refine wr_icmp_ge hw (pc' := 10) d_M_plain_7 rfl rfl (fun hw => ?_) (fun hw => ?_)
    · refine mm_iconst (v := 1) (pc' := 55) d_M_plain_54 rfl (by decide) ?_
      exact wr_iret hV d_M_plain_55 rfl rfl hw
    · refine mm_iload_n (pc' := 11) d_M_plain_10 rfl rfl rfl ?_
      refine mm_iload_n (pc' := 12) d_M_plain_11 rfl rfl rfl ?_
      refine mm_iadd (pc' := 13) d_M_plain_12 rfl ?_
      refine wr_aload_n (some a) (pc' := 14) d_M_plain_13 rfl rfl rfl ?_
      refine wr_getI hV hw (pc' := 17) d_M_plain_14 rfl fl_M_95 (fun x2 hw => ?_)
      refine wr_icmp_lt hw (pc' := 20) d_M_plain_17 rfl rfl (fun hw => ?_) (fun hw => ?_)
      · refine wr_aload_n (some a) (pc' := 23) d_M_plain_22 rfl rfl rfl ?_
        refine wr_getR hV hw (pc' := 26) d_M_plain_23 rfl fl_M_83 (fun r3 hw => ?_)
        refine wr_aload_n (some a) (pc' := 27) d_M_plain_26 rfl rfl rfl ?_
        refine wr_getI hV hw (pc' := 30) d_M_plain_27 rfl fl_M_164 (fun x4 hw => ?_)
        refine wr_aload_n (some a) (pc' := 31) d_M_plain_30 rfl rfl rfl ?_
        refine mm_iload_n (pc' := 32) d_M_plain_31 rfl rfl rfl ?_
        refine mm_iload_n (pc' := 33) d_M_plain_32 rfl rfl rfl ?_
        refine mm_iadd (pc' := 34) d_M_plain_33 rfl ?_
        refine wr_cVI (pc' := 37) (as := [.int (p0 + u2)]) (st := [.int x4, va_rf r3]) d_M_plain_34 rfl cs_M_102 rfl (W := fun b Q' => wp_M_byteAt b (p0 + u2) A Q') hV hw (fun b Q' hw => sd_M_byteAt hV hw) rfl rfl (Nat.le_of_ble_eq_true rfl) (Nat.le_trans (wr_hI (wr_hR wr_h0)) (Nat.le_of_ble_eq_true rfl)) (fun x5 h A hV hw => ?_)
        refine wr_astI hV hw (pc' := 38) d_M_plain_37 rfl (fun h A hV hw => ?_)
        refine wr_aload_n (some a) (pc' := 39) d_M_plain_38 rfl rfl rfl ?_
        refine mm_dup (pc' := 40) d_M_plain_39 rfl (wr_cat _) ?_
        refine wr_getI hV hw (pc' := 43) d_M_plain_40 rfl fl_M_164 (fun x6 hw => ?_)
        refine mm_iconst (v := 1) (pc' := 44) d_M_plain_43 rfl (by decide) ?_
        refine mm_iadd (pc' := 45) d_M_plain_44 rfl ?_
        refine wr_put hV hw (pc' := 48) d_M_plain_45 rfl pl_M_plain_164 (Nat.le_of_ble_eq_true rfl) (wn_I _) (fun h A hV hw => ?_)
        refine mm_iinc2 (v := (u2 + 1)) (pc' := 51) d_M_plain_48 rfl rfl rfl (Nat.le_of_ble_eq_true rfl) ?_
        refine mm_goto (tgt := 2) d_M_plain_51 rfl ?_
        exact mm_drop (mm_le.s (mm_le.s (mm_le.s mm_le.e))) (hk2 _ _ _ hV hw)
      · refine mm_iconst (v := 0) (pc' := 21) d_M_plain_20 rfl (by decide) ?_
        exact wr_iret hV d_M_plain_21 rfl rfl hw
def wp_M_plain (a : Nat) (p0 : Int32) (A : ab_H) (Q : Int32 → ab_H → Prop) : Prop := ∃ n, wq_M_plain_2 a p0 Q n (0 : Int32) A
set_option maxRecDepth 100000 in
set_option maxHeartbeats 4000000 in
theorem sd_M_plain {l : Launch} {G : mm_G} {h : mm_H} {A : ab_H} {a : Nat} {p0 : Int32} {Q : Int32 → ab_H → Prop} (hV : Vw G h A) (hw : wp_M_plain a p0 A Q) : mm_S l G M_M_plain [.ref a, .int p0] h 0 0 (wQI G Q) := by
  unfold wp_M_plain at hw
  refine mm_start rfl (Nat.le_of_ble_eq_true rfl) ?_
  show mm_V l G M_M_plain 0 0 0 [some (va_rf (some a)), some (.int p0), none] [] h _
  refine mm_iconst (v := 0) (pc' := 1) d_M_plain_0 rfl (by decide) ?_
  refine mm_ist2 (pc' := 2) d_M_plain_1 rfl rfl (Nat.le_of_ble_eq_true rfl) ?_
  obtain ⟨n, hw⟩ := hw
  exact mm_drop (mm_le.s (mm_le.s (mm_le.s mm_le.e))) (sq_M_plain_2  n _ _ _ hV hw)
theorem d_M_judge_0 : decode prog_14_method_19_code 0 = .ok (.aload_n 0, 1) := by decide +kernel
theorem d_M_judge_1 : decode prog_14_method_19_code 1 = .ok (.sipush 520, 3) := by decide +kernel
theorem d_M_judge_4 : decode prog_14_method_19_code 4 = .ok (.iload_n 1, 1) := by decide +kernel
theorem d_M_judge_5 : decode prog_14_method_19_code 5 = .ok (.imul, 1) := by decide +kernel
theorem d_M_judge_6 : decode prog_14_method_19_code 6 = .ok (.putfield 99, 3) := by decide +kernel
theorem d_M_judge_9 : decode prog_14_method_19_code 9 = .ok (.aload_n 0, 1) := by decide +kernel
theorem d_M_judge_10 : decode prog_14_method_19_code 10 = .ok (.aload_n 0, 1) := by decide +kernel
theorem d_M_judge_11 : decode prog_14_method_19_code 11 = .ok (.getfield 13, 3) := by decide +kernel
theorem d_M_judge_14 : decode prog_14_method_19_code 14 = .ok (.iload_n 1, 1) := by decide +kernel
theorem d_M_judge_15 : decode prog_14_method_19_code 15 = .ok (.iaload, 1) := by decide +kernel
theorem d_M_judge_16 : decode prog_14_method_19_code 16 = .ok (.putfield 95, 3) := by decide +kernel
theorem d_M_judge_19 : decode prog_14_method_19_code 19 = .ok (.aload_n 0, 1) := by decide +kernel
theorem d_M_judge_20 : decode prog_14_method_19_code 20 = .ok (.iconst 0, 1) := by decide +kernel
theorem d_M_judge_21 : decode prog_14_method_19_code 21 = .ok (.putfield 142, 3) := by decide +kernel
theorem d_M_judge_24 : decode prog_14_method_19_code 24 = .ok (.aload_n 0, 1) := by decide +kernel
theorem d_M_judge_25 : decode prog_14_method_19_code 25 = .ok (.iconst 0, 1) := by decide +kernel
theorem d_M_judge_26 : decode prog_14_method_19_code 26 = .ok (.putfield 164, 3) := by decide +kernel
theorem d_M_judge_29 : decode prog_14_method_19_code 29 = .ok (.aload_n 0, 1) := by decide +kernel
theorem d_M_judge_30 : decode prog_14_method_19_code 30 = .ok (.iconst 0, 1) := by decide +kernel
theorem d_M_judge_31 : decode prog_14_method_19_code 31 = .ok (.putfield 158, 3) := by decide +kernel
theorem d_M_judge_34 : decode prog_14_method_19_code 34 = .ok (.aload_n 0, 1) := by decide +kernel
theorem d_M_judge_35 : decode prog_14_method_19_code 35 = .ok (.iconst (-1), 1) := by decide +kernel
theorem d_M_judge_36 : decode prog_14_method_19_code 36 = .ok (.putfield 151, 3) := by decide +kernel
theorem d_M_judge_39 : decode prog_14_method_19_code 39 = .ok (.aload_n 0, 1) := by decide +kernel
theorem d_M_judge_40 : decode prog_14_method_19_code 40 = .ok (.iconst 0, 1) := by decide +kernel
theorem d_M_judge_41 : decode prog_14_method_19_code 41 = .ok (.putfield 154, 3) := by decide +kernel
theorem d_M_judge_44 : decode prog_14_method_19_code 44 = .ok (.aload_n 0, 1) := by decide +kernel
theorem d_M_judge_45 : decode prog_14_method_19_code 45 = .ok (.iconst 0, 1) := by decide +kernel
theorem d_M_judge_46 : decode prog_14_method_19_code 46 = .ok (.bipush 40, 2) := by decide +kernel
theorem d_M_judge_48 : decode prog_14_method_19_code 48 = .ok (.sipush 414, 3) := by decide +kernel
theorem d_M_judge_51 : decode prog_14_method_19_code 51 = .ok (.invokevirtual 167, 3) := by decide +kernel
theorem d_M_judge_54 : decode prog_14_method_19_code 54 = .ok (.istore_n 2, 1) := by decide +kernel
theorem d_M_judge_55 : decode prog_14_method_19_code 55 = .ok (.iload_n 2, 1) := by decide +kernel
theorem d_M_judge_56 : decode prog_14_method_19_code 56 = .ok (.ifCond .gt 6, 3) := by decide +kernel
theorem d_M_judge_59 : decode prog_14_method_19_code 59 = .ok (.iload_n 2, 1) := by decide +kernel
theorem d_M_judge_60 : decode prog_14_method_19_code 60 = .ok (.ineg, 1) := by decide +kernel
theorem d_M_judge_61 : decode prog_14_method_19_code 61 = .ok (.ireturn, 1) := by decide +kernel
theorem d_M_judge_62 : decode prog_14_method_19_code 62 = .ok (.aload_n 0, 1) := by decide +kernel
theorem d_M_judge_63 : decode prog_14_method_19_code 63 = .ok (.iload_n 2, 1) := by decide +kernel
theorem d_M_judge_64 : decode prog_14_method_19_code 64 = .ok (.iconst 2, 1) := by decide +kernel
theorem d_M_judge_65 : decode prog_14_method_19_code 65 = .ok (.isub, 1) := by decide +kernel
theorem d_M_judge_66 : decode prog_14_method_19_code 66 = .ok (.invokevirtual 170, 3) := by decide +kernel
theorem d_M_judge_69 : decode prog_14_method_19_code 69 = .ok (.ifCond .ne 7, 3) := by decide +kernel
theorem d_M_judge_72 : decode prog_14_method_19_code 72 = .ok (.sipush 400, 3) := by decide +kernel
theorem d_M_judge_75 : decode prog_14_method_19_code 75 = .ok (.ireturn, 1) := by decide +kernel
theorem d_M_judge_76 : decode prog_14_method_19_code 76 = .ok (.iconst 1, 1) := by decide +kernel
theorem d_M_judge_77 : decode prog_14_method_19_code 77 = .ok (.istore_n 3, 1) := by decide +kernel
theorem d_M_judge_78 : decode prog_14_method_19_code 78 = .ok (.iconst 0, 1) := by decide +kernel
theorem d_M_judge_79 : decode prog_14_method_19_code 79 = .ok (.istore 4, 2) := by decide +kernel
theorem d_M_judge_81 : decode prog_14_method_19_code 81 = .ok (.iload 4, 2) := by decide +kernel
theorem d_M_judge_83 : decode prog_14_method_19_code 83 = .ok (.bipush 6, 2) := by decide +kernel
theorem d_M_judge_85 : decode prog_14_method_19_code 85 = .ok (.if_icmp .ge 98, 3) := by decide +kernel
theorem d_M_judge_88 : decode prog_14_method_19_code 88 = .ok (.iload_n 3, 1) := by decide +kernel
theorem d_M_judge_89 : decode prog_14_method_19_code 89 = .ok (.ifCond .eq 94, 3) := by decide +kernel
theorem d_M_judge_92 : decode prog_14_method_19_code 92 = .ok (.aload_n 0, 1) := by decide +kernel
theorem d_M_judge_93 : decode prog_14_method_19_code 93 = .ok (.iload_n 2, 1) := by decide +kernel
theorem d_M_judge_94 : decode prog_14_method_19_code 94 = .ok (.bipush 32, 2) := by decide +kernel
theorem d_M_judge_96 : decode prog_14_method_19_code 96 = .ok (.sipush 431, 3) := by decide +kernel
theorem d_M_judge_99 : decode prog_14_method_19_code 99 = .ok (.invokevirtual 167, 3) := by decide +kernel
theorem d_M_judge_102 : decode prog_14_method_19_code 102 = .ok (.istore 5, 2) := by decide +kernel
theorem d_M_judge_104 : decode prog_14_method_19_code 104 = .ok (.iload 5, 2) := by decide +kernel
theorem d_M_judge_106 : decode prog_14_method_19_code 106 = .ok (.ifCond .gt 7, 3) := by decide +kernel
theorem d_M_judge_109 : decode prog_14_method_19_code 109 = .ok (.iload 5, 2) := by decide +kernel
theorem d_M_judge_111 : decode prog_14_method_19_code 111 = .ok (.ineg, 1) := by decide +kernel
theorem d_M_judge_112 : decode prog_14_method_19_code 112 = .ok (.ireturn, 1) := by decide +kernel
theorem d_M_judge_113 : decode prog_14_method_19_code 113 = .ok (.iload 5, 2) := by decide +kernel
theorem d_M_judge_115 : decode prog_14_method_19_code 115 = .ok (.iconst 2, 1) := by decide +kernel
theorem d_M_judge_116 : decode prog_14_method_19_code 116 = .ok (.isub, 1) := by decide +kernel
theorem d_M_judge_117 : decode prog_14_method_19_code 117 = .ok (.iload_n 2, 1) := by decide +kernel
theorem d_M_judge_118 : decode prog_14_method_19_code 118 = .ok (.if_icmp .le 7, 3) := by decide +kernel
theorem d_M_judge_121 : decode prog_14_method_19_code 121 = .ok (.iconst 1, 1) := by decide +kernel
theorem d_M_judge_122 : decode prog_14_method_19_code 122 = .ok (.goto 4, 3) := by decide +kernel
theorem d_M_judge_125 : decode prog_14_method_19_code 125 = .ok (.iconst 0, 1) := by decide +kernel
theorem d_M_judge_126 : decode prog_14_method_19_code 126 = .ok (.istore_n 3, 1) := by decide +kernel
theorem d_M_judge_127 : decode prog_14_method_19_code 127 = .ok (.iload_n 3, 1) := by decide +kernel
theorem d_M_judge_128 : decode prog_14_method_19_code 128 = .ok (.ifCond .eq 46, 3) := by decide +kernel
theorem d_M_judge_131 : decode prog_14_method_19_code 131 = .ok (.aload_n 0, 1) := by decide +kernel
theorem d_M_judge_132 : decode prog_14_method_19_code 132 = .ok (.dup, 1) := by decide +kernel
theorem d_M_judge_133 : decode prog_14_method_19_code 133 = .ok (.getfield 142, 3) := by decide +kernel
theorem d_M_judge_136 : decode prog_14_method_19_code 136 = .ok (.iconst 1, 1) := by decide +kernel
theorem d_M_judge_137 : decode prog_14_method_19_code 137 = .ok (.iadd, 1) := by decide +kernel
theorem d_M_judge_138 : decode prog_14_method_19_code 138 = .ok (.putfield 142, 3) := by decide +kernel
theorem d_M_judge_141 : decode prog_14_method_19_code 141 = .ok (.aload_n 0, 1) := by decide +kernel
theorem d_M_judge_142 : decode prog_14_method_19_code 142 = .ok (.getfield 142, 3) := by decide +kernel
theorem d_M_judge_145 : decode prog_14_method_19_code 145 = .ok (.iconst 5, 1) := by decide +kernel
theorem d_M_judge_146 : decode prog_14_method_19_code 146 = .ok (.if_icmp .ne 9, 3) := by decide +kernel
theorem d_M_judge_149 : decode prog_14_method_19_code 149 = .ok (.sipush 431, 3) := by decide +kernel
theorem d_M_judge_152 : decode prog_14_method_19_code 152 = .ok (.goto 12, 3) := by decide +kernel
theorem d_M_judge_155 : decode prog_14_method_19_code 155 = .ok (.aload_n 0, 1) := by decide +kernel
theorem d_M_judge_156 : decode prog_14_method_19_code 156 = .ok (.iload_n 2, 1) := by decide +kernel
theorem d_M_judge_157 : decode prog_14_method_19_code 157 = .ok (.iload 5, 2) := by decide +kernel
theorem d_M_judge_159 : decode prog_14_method_19_code 159 = .ok (.iconst 2, 1) := by decide +kernel
theorem d_M_judge_160 : decode prog_14_method_19_code 160 = .ok (.isub, 1) := by decide +kernel
theorem d_M_judge_161 : decode prog_14_method_19_code 161 = .ok (.invokevirtual 173, 3) := by decide +kernel
theorem d_M_judge_164 : decode prog_14_method_19_code 164 = .ok (.istore 6, 2) := by decide +kernel
theorem d_M_judge_166 : decode prog_14_method_19_code 166 = .ok (.iload 6, 2) := by decide +kernel
theorem d_M_judge_168 : decode prog_14_method_19_code 168 = .ok (.ifCond .le 6, 3) := by decide +kernel
theorem d_M_judge_171 : decode prog_14_method_19_code 171 = .ok (.iload 6, 2) := by decide +kernel
theorem d_M_judge_173 : decode prog_14_method_19_code 173 = .ok (.ireturn, 1) := by decide +kernel
theorem d_M_judge_174 : decode prog_14_method_19_code 174 = .ok (.iload 5, 2) := by decide +kernel
theorem d_M_judge_176 : decode prog_14_method_19_code 176 = .ok (.istore_n 2, 1) := by decide +kernel
theorem d_M_judge_177 : decode prog_14_method_19_code 177 = .ok (.iinc 4 1, 3) := by decide +kernel
theorem d_M_judge_180 : decode prog_14_method_19_code 180 = .ok (.goto (-99), 3) := by decide +kernel
theorem d_M_judge_183 : decode prog_14_method_19_code 183 = .ok (.aload_n 0, 1) := by decide +kernel
theorem d_M_judge_184 : decode prog_14_method_19_code 184 = .ok (.getfield 154, 3) := by decide +kernel
theorem d_M_judge_187 : decode prog_14_method_19_code 187 = .ok (.ifCond .eq 11, 3) := by decide +kernel
theorem d_M_judge_190 : decode prog_14_method_19_code 190 = .ok (.aload_n 0, 1) := by decide +kernel
theorem d_M_judge_191 : decode prog_14_method_19_code 191 = .ok (.iload_n 2, 1) := by decide +kernel
theorem d_M_judge_192 : decode prog_14_method_19_code 192 = .ok (.invokevirtual 176, 3) := by decide +kernel
theorem d_M_judge_195 : decode prog_14_method_19_code 195 = .ok (.goto 8, 3) := by decide +kernel
theorem d_M_judge_198 : decode prog_14_method_19_code 198 = .ok (.aload_n 0, 1) := by decide +kernel
theorem d_M_judge_199 : decode prog_14_method_19_code 199 = .ok (.iload_n 2, 1) := by decide +kernel
theorem d_M_judge_200 : decode prog_14_method_19_code 200 = .ok (.invokevirtual 179, 3) := by decide +kernel
theorem d_M_judge_203 : decode prog_14_method_19_code 203 = .ok (.ireturn, 1) := by decide +kernel
def wq_M_judge_183 (a : Nat) (p0 : Int32) (Q : Int32 → ab_H → Prop)  (u2 : Int32) (A : ab_H) : Prop := wgI A (some a) 14 36 (fun x1 => if x1 = 0 then (wC A (some a) 14 (fun b => wp_M_plain b u2 A (fun x2 A => Q x2 A))) else (wC A (some a) 14 (fun b => wp_M_chunks b u2 A (fun x3 A => Q x3 A))))
set_option maxRecDepth 100000 in
set_option maxHeartbeats 4000000 in
theorem sq_M_judge_183 {l : Launch} {G : mm_G} {a : Nat} {p0 : Int32} {Q : Int32 → ab_H → Prop}   : ∀ (u2 : Int32) (A : ab_H) (h : mm_H), Vw G h A → wq_M_judge_183 a p0 Q  u2 A → mm_V l G M_M_judge 0 0 183 [some (va_rf (some a)), some (.int p0), some (.int u2), none, none, none, none] [] h (wQI G Q) := by
  intro u2 A h hV hw
  unfold wq_M_judge_183 at hw
  refine wr_aload_n (some a) (pc' := 184) d_M_judge_183 rfl rfl rfl ?_
  refine wr_getI hV hw (pc' := 187) d_M_judge_184 rfl fl_M_154 (fun x1 hw => ?_)
  refine wr_if_eq hw (pc' := 190) d_M_judge_187 rfl rfl (fun hw => ?_) (fun hw => ?_)
  · refine wr_aload_n (some a) (pc' := 199) d_M_judge_198 rfl rfl rfl ?_
    refine mm_iload_n (pc' := 200) d_M_judge_199 rfl rfl rfl ?_
    refine wr_cVI (pc' := 203) (as := [.int u2]) (st := []) d_M_judge_200 rfl cs_M_179 rfl (W := fun b Q' => wp_M_plain b u2 A Q') hV hw (fun b Q' hw => sd_M_plain hV hw) rfl rfl (Nat.le_of_ble_eq_true rfl) (Nat.le_of_ble_eq_true rfl) (fun x2 h A hV hw => ?_)
    exact wr_iret hV d_M_judge_203 rfl rfl hw
  · refine wr_aload_n (some a) (pc' := 191) d_M_judge_190 rfl rfl rfl ?_
    refine mm_iload_n (pc' := 192) d_M_judge_191 rfl rfl rfl ?_
    refine wr_cVI (pc' := 195) (as := [.int u2]) (st := []) d_M_judge_192 rfl cs_M_176 rfl (W := fun b Q' => wp_M_chunks b u2 A Q') hV hw (fun b Q' hw => sd_M_chunks hV hw) rfl rfl (Nat.le_of_ble_eq_true rfl) (Nat.le_of_ble_eq_true rfl) (fun x3 h A hV hw => ?_)
    refine mm_goto (tgt := 203) d_M_judge_195 rfl ?_
    exact wr_iret hV d_M_judge_203 rfl rfl hw
def wq_M_judge_164 (a : Nat) (p0 : Int32) (Q : Int32 → ab_H → Prop) (k81 : Int32 → Int32 → Int32 → ab_H → Prop) (u3 : Int32) (u4 : Int32) (u5 : Int32) (s0 : Int32) (A : ab_H) : Prop := if s0 ≤ 0 then (k81 u5 u3 (u4 + 1) A) else (Q s0 A)
set_option maxRecDepth 100000 in
set_option maxHeartbeats 4000000 in
theorem sq_M_judge_164 {l : Launch} {G : mm_G} {a : Nat} {p0 : Int32} {Q : Int32 → ab_H → Prop} {k81 : Int32 → Int32 → Int32 → ab_H → Prop} (hk81 : ∀ (u2 : Int32) (u3 : Int32) (u4 : Int32) (A : ab_H) (h : mm_H), Vw G h A → k81 u2 u3 u4 A → mm_V l G M_M_judge 0 0 81 [some (va_rf (some a)), some (.int p0), some (.int u2), some (.int u3), some (.int u4), none, none] [] h (wQI G Q)) : ∀ (u3 : Int32) (u4 : Int32) (u5 : Int32) (s0 : Int32) (A : ab_H) (h : mm_H), Vw G h A → wq_M_judge_164 a p0 Q k81 u3 u4 u5 s0 A → mm_V l G M_M_judge 0 0 164 [some (va_rf (some a)), some (.int p0), none, some (.int u3), some (.int u4), some (.int u5), none] [.int s0] h (wQI G Q) := by
  intro u3 u4 u5 s0 A h hV hw
  unfold wq_M_judge_164 at hw
  refine mm_ist6 (pc' := 166) d_M_judge_164 rfl rfl (Nat.le_of_ble_eq_true rfl) ?_
  refine mm_iload (pc' := 168) d_M_judge_166 rfl rfl ?_
  refine wr_if_le hw (pc' := 171) d_M_judge_168 rfl rfl (fun hw => ?_) (fun hw => ?_)
  · refine mm_iload (pc' := 176) d_M_judge_174 rfl rfl ?_
    refine mm_ist2 (pc' := 177) d_M_judge_176 rfl rfl (Nat.le_of_ble_eq_true rfl) ?_
    refine mm_iinc4 (v := (u4 + 1)) (pc' := 180) d_M_judge_177 rfl rfl rfl (Nat.le_of_ble_eq_true rfl) ?_
    refine mm_goto (tgt := 81) d_M_judge_180 rfl ?_
    exact mm_drop (mm_le.s (mm_le.s (mm_le.s (mm_le.s (mm_le.s (mm_le.n (mm_le.n mm_le.e))))))) (hk81 _ _ _ _ _ hV hw)
  · refine mm_iload (pc' := 173) d_M_judge_171 rfl rfl ?_
    exact wr_iret hV d_M_judge_173 rfl rfl hw
def wq_M_judge_126 (a : Nat) (p0 : Int32) (Q : Int32 → ab_H → Prop) (k81 : Int32 → Int32 → Int32 → ab_H → Prop) (u2 : Int32) (u4 : Int32) (u5 : Int32) (s0 : Int32) (A : ab_H) : Prop := if s0 = 0 then (k81 u5 s0 (u4 + 1) A) else (wgI A (some a) 14 29 (fun x4 => wp A (some a) 14 29 (.int (x4 + (1 : Int32))) (fun A => wgI A (some a) 14 29 (fun x5 => if x5 = (5 : Int32) then (wq_M_judge_164 a p0 Q k81 s0 u4 u5 (431 : Int32) A) else (wC A (some a) 14 (fun b => wp_M_header b u2 (u5 - (2 : Int32)) A (fun x6 A => wq_M_judge_164 a p0 Q k81 s0 u4 u5 x6 A)))))))
set_option maxRecDepth 100000 in
set_option maxHeartbeats 4000000 in
theorem sq_M_judge_126 {l : Launch} {G : mm_G} {a : Nat} {p0 : Int32} {Q : Int32 → ab_H → Prop} {k81 : Int32 → Int32 → Int32 → ab_H → Prop} (hk81 : ∀ (u2 : Int32) (u3 : Int32) (u4 : Int32) (A : ab_H) (h : mm_H), Vw G h A → k81 u2 u3 u4 A → mm_V l G M_M_judge 0 0 81 [some (va_rf (some a)), some (.int p0), some (.int u2), some (.int u3), some (.int u4), none, none] [] h (wQI G Q)) : ∀ (u2 : Int32) (u4 : Int32) (u5 : Int32) (s0 : Int32) (A : ab_H) (h : mm_H), Vw G h A → wq_M_judge_126 a p0 Q k81 u2 u4 u5 s0 A → mm_V l G M_M_judge 0 0 126 [some (va_rf (some a)), some (.int p0), some (.int u2), none, some (.int u4), some (.int u5), none] [.int s0] h (wQI G Q) := by
  intro u2 u4 u5 s0 A h hV hw
  unfold wq_M_judge_126 at hw
  refine mm_ist3 (pc' := 127) d_M_judge_126 rfl rfl (Nat.le_of_ble_eq_true rfl) ?_
  refine mm_iload_n (pc' := 128) d_M_judge_127 rfl rfl rfl ?_
  refine wr_if_eq hw (pc' := 131) d_M_judge_128 rfl rfl (fun hw => ?_) (fun hw => ?_)
  · refine mm_iload (pc' := 176) d_M_judge_174 rfl rfl ?_
    refine mm_ist2 (pc' := 177) d_M_judge_176 rfl rfl (Nat.le_of_ble_eq_true rfl) ?_
    refine mm_iinc4 (v := (u4 + 1)) (pc' := 180) d_M_judge_177 rfl rfl rfl (Nat.le_of_ble_eq_true rfl) ?_
    refine mm_goto (tgt := 81) d_M_judge_180 rfl ?_
    exact mm_drop (mm_le.s (mm_le.s (mm_le.s (mm_le.s (mm_le.s (mm_le.n (mm_le.n mm_le.e))))))) (hk81 _ _ _ _ _ hV hw)
  · refine wr_aload_n (some a) (pc' := 132) d_M_judge_131 rfl rfl rfl ?_
    refine mm_dup (pc' := 133) d_M_judge_132 rfl (wr_cat _) ?_
    refine wr_getI hV hw (pc' := 136) d_M_judge_133 rfl fl_M_142 (fun x4 hw => ?_)
    refine mm_iconst (v := 1) (pc' := 137) d_M_judge_136 rfl (by decide) ?_
    refine mm_iadd (pc' := 138) d_M_judge_137 rfl ?_
    refine wr_put hV hw (pc' := 141) d_M_judge_138 rfl pl_M_judge_142 (Nat.le_of_ble_eq_true rfl) (wn_I _) (fun h A hV hw => ?_)
    refine wr_aload_n (some a) (pc' := 142) d_M_judge_141 rfl rfl rfl ?_
    refine wr_getI hV hw (pc' := 145) d_M_judge_142 rfl fl_M_142 (fun x5 hw => ?_)
    refine mm_iconst (v := 5) (pc' := 146) d_M_judge_145 rfl (by decide) ?_
    refine wr_icmp_ne hw (pc' := 149) d_M_judge_146 rfl rfl (fun hw => ?_) (fun hw => ?_)
    · refine wr_aload_n (some a) (pc' := 156) d_M_judge_155 rfl rfl rfl ?_
      refine mm_iload_n (pc' := 157) d_M_judge_156 rfl rfl rfl ?_
      refine mm_iload (pc' := 159) d_M_judge_157 rfl rfl ?_
      refine mm_iconst (v := 2) (pc' := 160) d_M_judge_159 rfl (by decide) ?_
      refine mm_isub (pc' := 161) d_M_judge_160 rfl ?_
      refine wr_cVI (pc' := 164) (as := [.int u2, .int (u5 - (2 : Int32))]) (st := []) d_M_judge_161 rfl cs_M_173 rfl (W := fun b Q' => wp_M_header b u2 (u5 - (2 : Int32)) A Q') hV hw (fun b Q' hw => sd_M_header hV hw) rfl rfl (Nat.le_of_ble_eq_true rfl) (Nat.le_of_ble_eq_true rfl) (fun x6 h A hV hw => ?_)
      exact mm_drop (mm_le.s (mm_le.s (mm_le.n (mm_le.s (mm_le.s (mm_le.s (mm_le.n mm_le.e))))))) (sq_M_judge_164 hk81 _ _ _ _ _ _ hV hw)
    · refine mm_sipush (v := 431) (pc' := 152) d_M_judge_149 rfl (by decide) ?_
      refine mm_goto (tgt := 164) d_M_judge_152 rfl ?_
      exact mm_drop (mm_le.s (mm_le.s (mm_le.n (mm_le.s (mm_le.s (mm_le.s (mm_le.n mm_le.e))))))) (sq_M_judge_164 hk81 _ _ _ _ _ _ hV hw)
def wb_M_judge_81 (a : Nat) (p0 : Int32) (Q : Int32 → ab_H → Prop)  (k81 : Int32 → Int32 → Int32 → ab_H → Prop) (u2 : Int32) (u3 : Int32) (u4 : Int32) (A : ab_H) : Prop := if (6 : Int32) ≤ u4 then (wq_M_judge_183 a p0 Q u2 A) else (if u3 = 0 then (wq_M_judge_183 a p0 Q u2 A) else (wC A (some a) 14 (fun b => wp_M_lineEnd b u2 (32 : Int32) (431 : Int32) A (fun x7 A => if 0 < x7 then (if (x7 - (2 : Int32)) ≤ u2 then (wq_M_judge_126 a p0 Q k81 u2 u4 x7 (0 : Int32) A) else (wq_M_judge_126 a p0 Q k81 u2 u4 x7 (1 : Int32) A)) else (Q (-x7) A)))))
def wq_M_judge_81 (a : Nat) (p0 : Int32) (Q : Int32 → ab_H → Prop)  : Nat → Int32 → Int32 → Int32 → ab_H → Prop
  | 0 => fun _ _ _ _ => False
  | n + 1 => wb_M_judge_81 a p0 Q  (wq_M_judge_81 a p0 Q  n)
set_option maxRecDepth 100000 in
set_option maxHeartbeats 4000000 in
theorem sq_M_judge_81 {l : Launch} {G : mm_G} {a : Nat} {p0 : Int32} {Q : Int32 → ab_H → Prop}   : ∀ (n : Nat) (u2 : Int32) (u3 : Int32) (u4 : Int32) (A : ab_H) (h : mm_H), Vw G h A → wq_M_judge_81 a p0 Q  n u2 u3 u4 A → mm_V l G M_M_judge 0 0 81 [some (va_rf (some a)), some (.int p0), some (.int u2), some (.int u3), some (.int u4), none, none] [] h (wQI G Q) := by
  intro n
  induction n with
  | zero =>
    intro u2 u3 u4 A h hV hw
    exact absurd hw id
  | succ n hk81 =>
    intro u2 u3 u4 A h hV hw
    have hw : wb_M_judge_81 a p0 Q  (wq_M_judge_81 a p0 Q  n) u2 u3 u4 A := hw
    unfold wb_M_judge_81 at hw
    refine mm_iload (pc' := 83) d_M_judge_81 rfl rfl ?_
    refine mm_bipush (v := 6) (pc' := 85) d_M_judge_83 rfl (by decide) ?_
    refine wr_icmp_ge hw (pc' := 88) d_M_judge_85 rfl rfl (fun hw => ?_) (fun hw => ?_)
    · exact mm_drop (mm_le.s (mm_le.s (mm_le.s (mm_le.n (mm_le.n (mm_le.n (mm_le.n mm_le.e))))))) (sq_M_judge_183  _ _ _ hV hw)
    · refine mm_iload_n (pc' := 89) d_M_judge_88 rfl rfl rfl ?_
      refine wr_if_eq hw (pc' := 92) d_M_judge_89 rfl rfl (fun hw => ?_) (fun hw => ?_)
      · exact mm_drop (mm_le.s (mm_le.s (mm_le.s (mm_le.n (mm_le.n (mm_le.n (mm_le.n mm_le.e))))))) (sq_M_judge_183  _ _ _ hV hw)
      · refine wr_aload_n (some a) (pc' := 93) d_M_judge_92 rfl rfl rfl ?_
        refine mm_iload_n (pc' := 94) d_M_judge_93 rfl rfl rfl ?_
        refine mm_bipush (v := 32) (pc' := 96) d_M_judge_94 rfl (by decide) ?_
        refine mm_sipush (v := 431) (pc' := 99) d_M_judge_96 rfl (by decide) ?_
        refine wr_cVI (pc' := 102) (as := [.int u2, .int (32 : Int32), .int (431 : Int32)]) (st := []) d_M_judge_99 rfl cs_M_167 rfl (W := fun b Q' => wp_M_lineEnd b u2 (32 : Int32) (431 : Int32) A Q') hV hw (fun b Q' hw => sd_M_lineEnd hV hw) rfl rfl (Nat.le_of_ble_eq_true rfl) (Nat.le_of_ble_eq_true rfl) (fun x7 h A hV hw => ?_)
        refine mm_ist5 (pc' := 104) d_M_judge_102 rfl rfl (Nat.le_of_ble_eq_true rfl) ?_
        refine mm_iload (pc' := 106) d_M_judge_104 rfl rfl ?_
        refine wr_if_gt hw (pc' := 109) d_M_judge_106 rfl rfl (fun hw => ?_) (fun hw => ?_)
        · refine mm_iload (pc' := 115) d_M_judge_113 rfl rfl ?_
          refine mm_iconst (v := 2) (pc' := 116) d_M_judge_115 rfl (by decide) ?_
          refine mm_isub (pc' := 117) d_M_judge_116 rfl ?_
          refine mm_iload_n (pc' := 118) d_M_judge_117 rfl rfl rfl ?_
          refine wr_icmp_le hw (pc' := 121) d_M_judge_118 rfl rfl (fun hw => ?_) (fun hw => ?_)
          · refine mm_iconst (v := 0) (pc' := 126) d_M_judge_125 rfl (by decide) ?_
            exact mm_drop (mm_le.s (mm_le.s (mm_le.s (mm_le.n (mm_le.s (mm_le.s (mm_le.n mm_le.e))))))) (sq_M_judge_126 hk81 _ _ _ _ _ _ hV hw)
          · refine mm_iconst (v := 1) (pc' := 122) d_M_judge_121 rfl (by decide) ?_
            refine mm_goto (tgt := 126) d_M_judge_122 rfl ?_
            exact mm_drop (mm_le.s (mm_le.s (mm_le.s (mm_le.n (mm_le.s (mm_le.s (mm_le.n mm_le.e))))))) (sq_M_judge_126 hk81 _ _ _ _ _ _ hV hw)
        · refine mm_iload (pc' := 111) d_M_judge_109 rfl rfl ?_
          refine mm_ineg (pc' := 112) d_M_judge_111 rfl ?_
          exact wr_iret hV d_M_judge_112 rfl rfl hw
def wp_M_judge (a : Nat) (p0 : Int32) (A : ab_H) (Q : Int32 → ab_H → Prop) : Prop := wp A (some a) 14 27 (.int ((520 : Int32) * p0)) (fun A => wgR A (some a) 14 1 (fun r8 => wAI A r8 p0 (fun x9 => wp A (some a) 14 28 (.int x9) (fun A => wp A (some a) 14 29 (.int (0 : Int32)) (fun A => wp A (some a) 14 32 (.int (0 : Int32)) (fun A => wp A (some a) 14 34 (.int (0 : Int32)) (fun A => wp A (some a) 14 35 (.int ((-1) : Int32)) (fun A => wp A (some a) 14 36 (.int (0 : Int32)) (fun A => wC A (some a) 14 (fun b => wp_M_lineEnd b (0 : Int32) (40 : Int32) (414 : Int32) A (fun x10 A => if 0 < x10 then (wC A (some a) 14 (fun b => wp_M_requestLine b (x10 - (2 : Int32)) A (fun x11 A => if x11 = 0 then (Q (400 : Int32) A) else (∃ n, wq_M_judge_81 a p0 Q n x10 (1 : Int32) (0 : Int32) A)))) else (Q (-x10) A))))))))))))
set_option maxRecDepth 100000 in
set_option maxHeartbeats 4000000 in
theorem sd_M_judge {l : Launch} {G : mm_G} {h : mm_H} {A : ab_H} {a : Nat} {p0 : Int32} {Q : Int32 → ab_H → Prop} (hV : Vw G h A) (hw : wp_M_judge a p0 A Q) : mm_S l G M_M_judge [.ref a, .int p0] h 0 0 (wQI G Q) := by
  unfold wp_M_judge at hw
  refine mm_start rfl (Nat.le_of_ble_eq_true rfl) ?_
  show mm_V l G M_M_judge 0 0 0 [some (va_rf (some a)), some (.int p0), none, none, none, none, none] [] h _
  refine wr_aload_n (some a) (pc' := 1) d_M_judge_0 rfl rfl rfl ?_
  refine mm_sipush (v := 520) (pc' := 4) d_M_judge_1 rfl (by decide) ?_
  refine mm_iload_n (pc' := 5) d_M_judge_4 rfl rfl rfl ?_
  refine mm_imul (pc' := 6) d_M_judge_5 rfl ?_
  refine wr_put hV hw (pc' := 9) d_M_judge_6 rfl pl_M_judge_99 (Nat.le_of_ble_eq_true rfl) (wn_I _) (fun h A hV hw => ?_)
  refine wr_aload_n (some a) (pc' := 10) d_M_judge_9 rfl rfl rfl ?_
  refine wr_aload_n (some a) (pc' := 11) d_M_judge_10 rfl rfl rfl ?_
  refine wr_getR hV hw (pc' := 14) d_M_judge_11 rfl fl_M_13 (fun r8 hw => ?_)
  refine mm_iload_n (pc' := 15) d_M_judge_14 rfl rfl rfl ?_
  refine wr_aldI hV hw (pc' := 16) d_M_judge_15 rfl (fun x9 hw => ?_)
  refine wr_put hV hw (pc' := 19) d_M_judge_16 rfl pl_M_judge_95 (Nat.le_of_ble_eq_true rfl) (wn_I _) (fun h A hV hw => ?_)
  refine wr_aload_n (some a) (pc' := 20) d_M_judge_19 rfl rfl rfl ?_
  refine mm_iconst (v := 0) (pc' := 21) d_M_judge_20 rfl (by decide) ?_
  refine wr_put hV hw (pc' := 24) d_M_judge_21 rfl pl_M_judge_142 (Nat.le_of_ble_eq_true rfl) (wn_I _) (fun h A hV hw => ?_)
  refine wr_aload_n (some a) (pc' := 25) d_M_judge_24 rfl rfl rfl ?_
  refine mm_iconst (v := 0) (pc' := 26) d_M_judge_25 rfl (by decide) ?_
  refine wr_put hV hw (pc' := 29) d_M_judge_26 rfl pl_M_judge_164 (Nat.le_of_ble_eq_true rfl) (wn_I _) (fun h A hV hw => ?_)
  refine wr_aload_n (some a) (pc' := 30) d_M_judge_29 rfl rfl rfl ?_
  refine mm_iconst (v := 0) (pc' := 31) d_M_judge_30 rfl (by decide) ?_
  refine wr_put hV hw (pc' := 34) d_M_judge_31 rfl pl_M_judge_158 (Nat.le_of_ble_eq_true rfl) (fun _ => ⟨rfl, rfl⟩) (fun h A hV hw => ?_)
  refine wr_aload_n (some a) (pc' := 35) d_M_judge_34 rfl rfl rfl ?_
  refine mm_iconst (v := (-1)) (pc' := 36) d_M_judge_35 rfl (by decide) ?_
  refine wr_put hV hw (pc' := 39) d_M_judge_36 rfl pl_M_judge_151 (Nat.le_of_ble_eq_true rfl) (wn_I _) (fun h A hV hw => ?_)
  refine wr_aload_n (some a) (pc' := 40) d_M_judge_39 rfl rfl rfl ?_
  refine mm_iconst (v := 0) (pc' := 41) d_M_judge_40 rfl (by decide) ?_
  refine wr_put hV hw (pc' := 44) d_M_judge_41 rfl pl_M_judge_154 (Nat.le_of_ble_eq_true rfl) (fun _ => ⟨rfl, rfl⟩) (fun h A hV hw => ?_)
  refine wr_aload_n (some a) (pc' := 45) d_M_judge_44 rfl rfl rfl ?_
  refine mm_iconst (v := 0) (pc' := 46) d_M_judge_45 rfl (by decide) ?_
  refine mm_bipush (v := 40) (pc' := 48) d_M_judge_46 rfl (by decide) ?_
  refine mm_sipush (v := 414) (pc' := 51) d_M_judge_48 rfl (by decide) ?_
  refine wr_cVI (pc' := 54) (as := [.int (0 : Int32), .int (40 : Int32), .int (414 : Int32)]) (st := []) d_M_judge_51 rfl cs_M_167 rfl (W := fun b Q' => wp_M_lineEnd b (0 : Int32) (40 : Int32) (414 : Int32) A Q') hV hw (fun b Q' hw => sd_M_lineEnd hV hw) rfl rfl (Nat.le_of_ble_eq_true rfl) (Nat.le_of_ble_eq_true rfl) (fun x10 h A hV hw => ?_)
  refine mm_ist2 (pc' := 55) d_M_judge_54 rfl rfl (Nat.le_of_ble_eq_true rfl) ?_
  refine mm_iload_n (pc' := 56) d_M_judge_55 rfl rfl rfl ?_
  refine wr_if_gt hw (pc' := 59) d_M_judge_56 rfl rfl (fun hw => ?_) (fun hw => ?_)
  · refine wr_aload_n (some a) (pc' := 63) d_M_judge_62 rfl rfl rfl ?_
    refine mm_iload_n (pc' := 64) d_M_judge_63 rfl rfl rfl ?_
    refine mm_iconst (v := 2) (pc' := 65) d_M_judge_64 rfl (by decide) ?_
    refine mm_isub (pc' := 66) d_M_judge_65 rfl ?_
    refine wr_cVI (pc' := 69) (as := [.int (x10 - (2 : Int32))]) (st := []) d_M_judge_66 rfl cs_M_170 rfl (W := fun b Q' => wp_M_requestLine b (x10 - (2 : Int32)) A Q') hV hw (fun b Q' hw => sd_M_requestLine hV hw) rfl rfl (Nat.le_of_ble_eq_true rfl) (Nat.le_of_ble_eq_true rfl) (fun x11 h A hV hw => ?_)
    refine wr_if_ne hw (pc' := 72) d_M_judge_69 rfl rfl (fun hw => ?_) (fun hw => ?_)
    · refine mm_iconst (v := 1) (pc' := 77) d_M_judge_76 rfl (by decide) ?_
      refine mm_ist3 (pc' := 78) d_M_judge_77 rfl rfl (Nat.le_of_ble_eq_true rfl) ?_
      refine mm_iconst (v := 0) (pc' := 79) d_M_judge_78 rfl (by decide) ?_
      refine mm_ist4 (pc' := 81) d_M_judge_79 rfl rfl (Nat.le_of_ble_eq_true rfl) ?_
      obtain ⟨n, hw⟩ := hw
      exact mm_drop (mm_le.s (mm_le.s (mm_le.s (mm_le.s (mm_le.s (mm_le.n (mm_le.n mm_le.e))))))) (sq_M_judge_81  n _ _ _ _ _ hV hw)
    · refine mm_sipush (v := 400) (pc' := 75) d_M_judge_72 rfl (by decide) ?_
      exact wr_iret hV d_M_judge_75 rfl rfl hw
  · refine mm_iload_n (pc' := 60) d_M_judge_59 rfl rfl rfl ?_
    refine mm_ineg (pc' := 61) d_M_judge_60 rfl ?_
    exact wr_iret hV d_M_judge_61 rfl rfl hw
theorem d_M_inScene_0 : decode prog_14_method_42_code 0 = .ok (.aload_n 0, 1) := by decide +kernel
theorem d_M_inScene_1 : decode prog_14_method_42_code 1 = .ok (.getfield 68, 3) := by decide +kernel
theorem d_M_inScene_4 : decode prog_14_method_42_code 4 = .ok (.iload_n 1, 1) := by decide +kernel
theorem d_M_inScene_5 : decode prog_14_method_42_code 5 = .ok (.iaload, 1) := by decide +kernel
theorem d_M_inScene_6 : decode prog_14_method_42_code 6 = .ok (.ifCond .lt 23, 3) := by decide +kernel
theorem d_M_inScene_9 : decode prog_14_method_42_code 9 = .ok (.aload_n 0, 1) := by decide +kernel
theorem d_M_inScene_10 : decode prog_14_method_42_code 10 = .ok (.getfield 29, 3) := by decide +kernel
theorem d_M_inScene_13 : decode prog_14_method_42_code 13 = .ok (.aload_n 0, 1) := by decide +kernel
theorem d_M_inScene_14 : decode prog_14_method_42_code 14 = .ok (.getfield 68, 3) := by decide +kernel
theorem d_M_inScene_17 : decode prog_14_method_42_code 17 = .ok (.iload_n 1, 1) := by decide +kernel
theorem d_M_inScene_18 : decode prog_14_method_42_code 18 = .ok (.iaload, 1) := by decide +kernel
theorem d_M_inScene_19 : decode prog_14_method_42_code 19 = .ok (.iaload, 1) := by decide +kernel
theorem d_M_inScene_20 : decode prog_14_method_42_code 20 = .ok (.aload_n 0, 1) := by decide +kernel
theorem d_M_inScene_21 : decode prog_14_method_42_code 21 = .ok (.getfield 71, 3) := by decide +kernel
theorem d_M_inScene_24 : decode prog_14_method_42_code 24 = .ok (.iload_n 1, 1) := by decide +kernel
theorem d_M_inScene_25 : decode prog_14_method_42_code 25 = .ok (.iaload, 1) := by decide +kernel
theorem d_M_inScene_26 : decode prog_14_method_42_code 26 = .ok (.if_icmp .ne 7, 3) := by decide +kernel
theorem d_M_inScene_29 : decode prog_14_method_42_code 29 = .ok (.iconst 1, 1) := by decide +kernel
theorem d_M_inScene_30 : decode prog_14_method_42_code 30 = .ok (.goto 4, 3) := by decide +kernel
theorem d_M_inScene_33 : decode prog_14_method_42_code 33 = .ok (.iconst 0, 1) := by decide +kernel
theorem d_M_inScene_34 : decode prog_14_method_42_code 34 = .ok (.ireturn, 1) := by decide +kernel
def wp_M_inScene (a : Nat) (p0 : Int32) (A : ab_H) (Q : Int32 → ab_H → Prop) : Prop := wgR A (some a) 14 24 (fun r1 => wAI A r1 p0 (fun x2 => if x2 < 0 then (Q (1 : Int32) A) else (wgR A (some a) 14 8 (fun r3 => wgR A (some a) 14 24 (fun r4 => wAI A r4 p0 (fun x5 => wAI A r3 x5 (fun x6 => wgR A (some a) 14 25 (fun r7 => wAI A r7 p0 (fun x8 => if x6 = x8 then (Q (1 : Int32) A) else (Q (0 : Int32) A))))))))))
set_option maxRecDepth 100000 in
set_option maxHeartbeats 4000000 in
theorem sd_M_inScene {l : Launch} {G : mm_G} {h : mm_H} {A : ab_H} {a : Nat} {p0 : Int32} {Q : Int32 → ab_H → Prop} (hV : Vw G h A) (hw : wp_M_inScene a p0 A Q) : mm_S l G M_M_inScene [.ref a, .int p0] h 0 0 (wQI G Q) := by
  unfold wp_M_inScene at hw
  refine mm_start rfl (Nat.le_of_ble_eq_true rfl) ?_
  show mm_V l G M_M_inScene 0 0 0 [some (va_rf (some a)), some (.int p0)] [] h _
  refine wr_aload_n (some a) (pc' := 1) d_M_inScene_0 rfl rfl rfl ?_
  refine wr_getR hV hw (pc' := 4) d_M_inScene_1 rfl fl_M_68 (fun r1 hw => ?_)
  refine mm_iload_n (pc' := 5) d_M_inScene_4 rfl rfl rfl ?_
  refine wr_aldI hV hw (pc' := 6) d_M_inScene_5 rfl (fun x2 hw => ?_)
  refine wr_if_lt hw (pc' := 9) d_M_inScene_6 rfl rfl (fun hw => ?_) (fun hw => ?_)
  · refine mm_iconst (v := 1) (pc' := 30) d_M_inScene_29 rfl (by decide) ?_
    refine mm_goto (tgt := 34) d_M_inScene_30 rfl ?_
    exact wr_iret hV d_M_inScene_34 rfl rfl hw
  · refine wr_aload_n (some a) (pc' := 10) d_M_inScene_9 rfl rfl rfl ?_
    refine wr_getR hV hw (pc' := 13) d_M_inScene_10 rfl fl_M_29 (fun r3 hw => ?_)
    refine wr_aload_n (some a) (pc' := 14) d_M_inScene_13 rfl rfl rfl ?_
    refine wr_getR hV hw (pc' := 17) d_M_inScene_14 rfl fl_M_68 (fun r4 hw => ?_)
    refine mm_iload_n (pc' := 18) d_M_inScene_17 rfl rfl rfl ?_
    refine wr_aldI hV hw (pc' := 19) d_M_inScene_18 rfl (fun x5 hw => ?_)
    refine wr_aldI hV hw (pc' := 20) d_M_inScene_19 rfl (fun x6 hw => ?_)
    refine wr_aload_n (some a) (pc' := 21) d_M_inScene_20 rfl rfl rfl ?_
    refine wr_getR hV hw (pc' := 24) d_M_inScene_21 rfl fl_M_71 (fun r7 hw => ?_)
    refine mm_iload_n (pc' := 25) d_M_inScene_24 rfl rfl rfl ?_
    refine wr_aldI hV hw (pc' := 26) d_M_inScene_25 rfl (fun x8 hw => ?_)
    refine wr_icmp_ne hw (pc' := 29) d_M_inScene_26 rfl rfl (fun hw => ?_) (fun hw => ?_)
    · refine mm_iconst (v := 0) (pc' := 34) d_M_inScene_33 rfl (by decide) ?_
      exact wr_iret hV d_M_inScene_34 rfl rfl hw
    · refine mm_iconst (v := 1) (pc' := 30) d_M_inScene_29 rfl (by decide) ?_
      refine mm_goto (tgt := 34) d_M_inScene_30 rfl ?_
      exact wr_iret hV d_M_inScene_34 rfl rfl hw
theorem d_M_put_0 : decode prog_14_method_23_code 0 = .ok (.aload_n 0, 1) := by decide +kernel
theorem d_M_put_1 : decode prog_14_method_23_code 1 = .ok (.getfield 89, 3) := by decide +kernel
theorem d_M_put_4 : decode prog_14_method_23_code 4 = .ok (.aload_n 0, 1) := by decide +kernel
theorem d_M_put_5 : decode prog_14_method_23_code 5 = .ok (.getfield 185, 3) := by decide +kernel
theorem d_M_put_8 : decode prog_14_method_23_code 8 = .ok (.iload_n 1, 1) := by decide +kernel
theorem d_M_put_9 : decode prog_14_method_23_code 9 = .ok (.iastore, 1) := by decide +kernel
theorem d_M_put_10 : decode prog_14_method_23_code 10 = .ok (.aload_n 0, 1) := by decide +kernel
theorem d_M_put_11 : decode prog_14_method_23_code 11 = .ok (.dup, 1) := by decide +kernel
theorem d_M_put_12 : decode prog_14_method_23_code 12 = .ok (.getfield 185, 3) := by decide +kernel
theorem d_M_put_15 : decode prog_14_method_23_code 15 = .ok (.iconst 1, 1) := by decide +kernel
theorem d_M_put_16 : decode prog_14_method_23_code 16 = .ok (.iadd, 1) := by decide +kernel
theorem d_M_put_17 : decode prog_14_method_23_code 17 = .ok (.putfield 185, 3) := by decide +kernel
theorem d_M_put_20 : decode prog_14_method_23_code 20 = .ok (.return_, 1) := by decide +kernel
def wp_M_put (a : Nat) (p0 : Int32) (A : ab_H) (Q : ab_H → Prop) : Prop := wgR A (some a) 14 39 (fun r1 => wgI A (some a) 14 40 (fun x2 => wSI A r1 x2 p0 (fun A => wgI A (some a) 14 40 (fun x3 => wp A (some a) 14 40 (.int (x3 + (1 : Int32))) (fun A => Q A)))))
set_option maxRecDepth 100000 in
set_option maxHeartbeats 4000000 in
theorem sd_M_put {l : Launch} {G : mm_G} {h : mm_H} {A : ab_H} {a : Nat} {p0 : Int32} {Q : ab_H → Prop} (hV : Vw G h A) (hw : wp_M_put a p0 A Q) : mm_S l G M_M_put [.ref a, .int p0] h 0 0 (wQV G Q) := by
  unfold wp_M_put at hw
  refine mm_start rfl (Nat.le_of_ble_eq_true rfl) ?_
  show mm_V l G M_M_put 0 0 0 [some (va_rf (some a)), some (.int p0)] [] h _
  refine wr_aload_n (some a) (pc' := 1) d_M_put_0 rfl rfl rfl ?_
  refine wr_getR hV hw (pc' := 4) d_M_put_1 rfl fl_M_89 (fun r1 hw => ?_)
  refine wr_aload_n (some a) (pc' := 5) d_M_put_4 rfl rfl rfl ?_
  refine wr_getI hV hw (pc' := 8) d_M_put_5 rfl fl_M_185 (fun x2 hw => ?_)
  refine mm_iload_n (pc' := 9) d_M_put_8 rfl rfl rfl ?_
  refine wr_astI hV hw (pc' := 10) d_M_put_9 rfl (fun h A hV hw => ?_)
  refine wr_aload_n (some a) (pc' := 11) d_M_put_10 rfl rfl rfl ?_
  refine mm_dup (pc' := 12) d_M_put_11 rfl (wr_cat _) ?_
  refine wr_getI hV hw (pc' := 15) d_M_put_12 rfl fl_M_185 (fun x3 hw => ?_)
  refine mm_iconst (v := 1) (pc' := 16) d_M_put_15 rfl (by decide) ?_
  refine mm_iadd (pc' := 17) d_M_put_16 rfl ?_
  refine wr_put hV hw (pc' := 20) d_M_put_17 rfl pl_M_put_185 (Nat.le_of_ble_eq_true rfl) (wn_I _) (fun h A hV hw => ?_)
  exact wr_vret hV d_M_put_20 rfl hw
theorem d_M_decode_0 : decode prog_14_method_24_code 0 = .ok (.aload_n 0, 1) := by decide +kernel
theorem d_M_decode_1 : decode prog_14_method_24_code 1 = .ok (.iconst 0, 1) := by decide +kernel
theorem d_M_decode_2 : decode prog_14_method_24_code 2 = .ok (.putfield 185, 3) := by decide +kernel
theorem d_M_decode_5 : decode prog_14_method_24_code 5 = .ok (.iload_n 1, 1) := by decide +kernel
theorem d_M_decode_6 : decode prog_14_method_24_code 6 = .ok (.istore_n 3, 1) := by decide +kernel
theorem d_M_decode_7 : decode prog_14_method_24_code 7 = .ok (.iload_n 3, 1) := by decide +kernel
theorem d_M_decode_8 : decode prog_14_method_24_code 8 = .ok (.iload_n 2, 1) := by decide +kernel
theorem d_M_decode_9 : decode prog_14_method_24_code 9 = .ok (.if_icmp .ge 80, 3) := by decide +kernel
theorem d_M_decode_12 : decode prog_14_method_24_code 12 = .ok (.aload_n 0, 1) := by decide +kernel
theorem d_M_decode_13 : decode prog_14_method_24_code 13 = .ok (.iload_n 3, 1) := by decide +kernel
theorem d_M_decode_14 : decode prog_14_method_24_code 14 = .ok (.invokevirtual 102, 3) := by decide +kernel
theorem d_M_decode_17 : decode prog_14_method_24_code 17 = .ok (.bipush 37, 2) := by decide +kernel
theorem d_M_decode_19 : decode prog_14_method_24_code 19 = .ok (.if_icmp .ne 7, 3) := by decide +kernel
theorem d_M_decode_22 : decode prog_14_method_24_code 22 = .ok (.iconst 1, 1) := by decide +kernel
theorem d_M_decode_23 : decode prog_14_method_24_code 23 = .ok (.goto 4, 3) := by decide +kernel
theorem d_M_decode_26 : decode prog_14_method_24_code 26 = .ok (.iconst 0, 1) := by decide +kernel
theorem d_M_decode_27 : decode prog_14_method_24_code 27 = .ok (.istore 4, 2) := by decide +kernel
theorem d_M_decode_29 : decode prog_14_method_24_code 29 = .ok (.aload_n 0, 1) := by decide +kernel
theorem d_M_decode_30 : decode prog_14_method_24_code 30 = .ok (.iload 4, 2) := by decide +kernel
theorem d_M_decode_32 : decode prog_14_method_24_code 32 = .ok (.ifCond .eq 30, 3) := by decide +kernel
theorem d_M_decode_35 : decode prog_14_method_24_code 35 = .ok (.bipush 16, 2) := by decide +kernel
theorem d_M_decode_37 : decode prog_14_method_24_code 37 = .ok (.aload_n 0, 1) := by decide +kernel
theorem d_M_decode_38 : decode prog_14_method_24_code 38 = .ok (.iload_n 3, 1) := by decide +kernel
theorem d_M_decode_39 : decode prog_14_method_24_code 39 = .ok (.iconst 1, 1) := by decide +kernel
theorem d_M_decode_40 : decode prog_14_method_24_code 40 = .ok (.iadd, 1) := by decide +kernel
theorem d_M_decode_41 : decode prog_14_method_24_code 41 = .ok (.invokevirtual 102, 3) := by decide +kernel
theorem d_M_decode_44 : decode prog_14_method_24_code 44 = .ok (.invokestatic 106, 3) := by decide +kernel
theorem d_M_decode_47 : decode prog_14_method_24_code 47 = .ok (.imul, 1) := by decide +kernel
theorem d_M_decode_48 : decode prog_14_method_24_code 48 = .ok (.aload_n 0, 1) := by decide +kernel
theorem d_M_decode_49 : decode prog_14_method_24_code 49 = .ok (.iload_n 3, 1) := by decide +kernel
theorem d_M_decode_50 : decode prog_14_method_24_code 50 = .ok (.iconst 2, 1) := by decide +kernel
theorem d_M_decode_51 : decode prog_14_method_24_code 51 = .ok (.iadd, 1) := by decide +kernel
theorem d_M_decode_52 : decode prog_14_method_24_code 52 = .ok (.invokevirtual 102, 3) := by decide +kernel
theorem d_M_decode_55 : decode prog_14_method_24_code 55 = .ok (.invokestatic 106, 3) := by decide +kernel
theorem d_M_decode_58 : decode prog_14_method_24_code 58 = .ok (.iadd, 1) := by decide +kernel
theorem d_M_decode_59 : decode prog_14_method_24_code 59 = .ok (.goto 8, 3) := by decide +kernel
theorem d_M_decode_62 : decode prog_14_method_24_code 62 = .ok (.aload_n 0, 1) := by decide +kernel
theorem d_M_decode_63 : decode prog_14_method_24_code 63 = .ok (.iload_n 3, 1) := by decide +kernel
theorem d_M_decode_64 : decode prog_14_method_24_code 64 = .ok (.invokevirtual 102, 3) := by decide +kernel
theorem d_M_decode_67 : decode prog_14_method_24_code 67 = .ok (.invokevirtual 188, 3) := by decide +kernel
theorem d_M_decode_70 : decode prog_14_method_24_code 70 = .ok (.iload 4, 2) := by decide +kernel
theorem d_M_decode_72 : decode prog_14_method_24_code 72 = .ok (.ifCond .eq 9, 3) := by decide +kernel
theorem d_M_decode_75 : decode prog_14_method_24_code 75 = .ok (.iload_n 3, 1) := by decide +kernel
theorem d_M_decode_76 : decode prog_14_method_24_code 76 = .ok (.iconst 2, 1) := by decide +kernel
theorem d_M_decode_77 : decode prog_14_method_24_code 77 = .ok (.iadd, 1) := by decide +kernel
theorem d_M_decode_78 : decode prog_14_method_24_code 78 = .ok (.goto 4, 3) := by decide +kernel
theorem d_M_decode_81 : decode prog_14_method_24_code 81 = .ok (.iload_n 3, 1) := by decide +kernel
theorem d_M_decode_82 : decode prog_14_method_24_code 82 = .ok (.istore_n 3, 1) := by decide +kernel
theorem d_M_decode_83 : decode prog_14_method_24_code 83 = .ok (.iinc 3 1, 3) := by decide +kernel
theorem d_M_decode_86 : decode prog_14_method_24_code 86 = .ok (.goto (-79), 3) := by decide +kernel
theorem d_M_decode_89 : decode prog_14_method_24_code 89 = .ok (.return_, 1) := by decide +kernel
def wq_M_decode_67 (a : Nat) (p0 : Int32) (p1 : Int32) (Q : ab_H → Prop) (k7 : Int32 → ab_H → Prop) (u3 : Int32) (u4 : Int32) (s0 : Option Nat) (s1 : Int32) (A : ab_H) : Prop := wC A s0 14 (fun b => wp_M_put b s1 A (fun A => if u4 = 0 then (k7 (u3 + 1) A) else (wL ((u3 + (2 : Int32))) (fun x1 => k7 (x1 + 1) A))))
set_option maxRecDepth 100000 in
set_option maxHeartbeats 4000000 in
theorem sq_M_decode_67 {l : Launch} {G : mm_G} {a : Nat} {p0 : Int32} {p1 : Int32} {Q : ab_H → Prop} {k7 : Int32 → ab_H → Prop} (hk7 : ∀ (u3 : Int32) (A : ab_H) (h : mm_H), Vw G h A → k7 u3 A → mm_V l G M_M_decode 0 0 7 [some (va_rf (some a)), some (.int p0), some (.int p1), some (.int u3), none] [] h (wQV G Q)) : ∀ (u3 : Int32) (u4 : Int32) (s0 : Option Nat) (s1 : Int32) (A : ab_H) (h : mm_H), Vw G h A → wq_M_decode_67 a p0 p1 Q k7 u3 u4 s0 s1 A → mm_V l G M_M_decode 0 0 67 [some (va_rf (some a)), some (.int p0), some (.int p1), some (.int u3), some (.int u4)] [.int s1, va_rf s0] h (wQV G Q) := by
  intro u3 u4 s0 s1 A h hV hw
  unfold wq_M_decode_67 at hw
  refine wr_cVV (pc' := 70) (as := [.int s1]) (st := []) d_M_decode_67 rfl cs_M_188 rfl (W := fun b Q' => wp_M_put b s1 A Q') hV hw (fun b Q' hw => sd_M_put hV hw) rfl rfl (Nat.le_of_ble_eq_true rfl) (Nat.le_of_ble_eq_true rfl) (fun h A hV hw => ?_)
  refine mm_iload (pc' := 72) d_M_decode_70 rfl rfl ?_
  refine wr_if_eq hw (pc' := 75) d_M_decode_72 rfl rfl (fun hw => ?_) (fun hw => ?_)
  · refine mm_iload_n (pc' := 82) d_M_decode_81 rfl rfl rfl ?_
    refine mm_ist3 (pc' := 83) d_M_decode_82 rfl rfl (Nat.le_of_ble_eq_true rfl) ?_
    refine mm_iinc3 (v := (u3 + 1)) (pc' := 86) d_M_decode_83 rfl rfl rfl (Nat.le_of_ble_eq_true rfl) ?_
    refine mm_goto (tgt := 7) d_M_decode_86 rfl ?_
    exact mm_drop (mm_le.s (mm_le.s (mm_le.s (mm_le.s (mm_le.n mm_le.e))))) (hk7 _ _ _ hV hw)
  · refine mm_iload_n (pc' := 76) d_M_decode_75 rfl rfl rfl ?_
    refine mm_iconst (v := 2) (pc' := 77) d_M_decode_76 rfl (by decide) ?_
    refine mm_iadd (pc' := 78) d_M_decode_77 rfl ?_
    refine mm_goto (tgt := 82) d_M_decode_78 rfl ?_
    refine wr_let (P := fun z => mm_V l G M_M_decode 0 0 82 [some (va_rf (some a)), some (.int p0), some (.int p1), some (.int u3), some (.int u4)] (.int z :: []) h _) hw (fun x1 hw => ?_)
    refine mm_ist3 (pc' := 83) d_M_decode_82 rfl rfl (Nat.le_of_ble_eq_true rfl) ?_
    refine mm_iinc3 (v := (x1 + 1)) (pc' := 86) d_M_decode_83 rfl rfl rfl (Nat.le_of_ble_eq_true rfl) ?_
    refine mm_goto (tgt := 7) d_M_decode_86 rfl ?_
    exact mm_drop (mm_le.s (mm_le.s (mm_le.s (mm_le.s (mm_le.n mm_le.e))))) (hk7 _ _ _ hV hw)
def wq_M_decode_27 (a : Nat) (p0 : Int32) (p1 : Int32) (Q : ab_H → Prop) (k7 : Int32 → ab_H → Prop) (u3 : Int32) (s0 : Int32) (A : ab_H) : Prop := if s0 = 0 then (wC A (some a) 14 (fun b => wp_M_byteAt b u3 A (fun x2 A => wq_M_decode_67 a p0 p1 Q k7 u3 s0 (some a) x2 A))) else (wC A (some a) 14 (fun b => wp_M_byteAt b (u3 + (1 : Int32)) A (fun x3 A => wp_M_hex x3 A (fun x4 A => wC A (some a) 14 (fun b => wp_M_byteAt b (u3 + (2 : Int32)) A (fun x5 A => wp_M_hex x5 A (fun x6 A => wq_M_decode_67 a p0 p1 Q k7 u3 s0 (some a) (((16 : Int32) * x4) + x6) A)))))))
set_option maxRecDepth 100000 in
set_option maxHeartbeats 4000000 in
theorem sq_M_decode_27 {l : Launch} {G : mm_G} {a : Nat} {p0 : Int32} {p1 : Int32} {Q : ab_H → Prop} {k7 : Int32 → ab_H → Prop} (hk7 : ∀ (u3 : Int32) (A : ab_H) (h : mm_H), Vw G h A → k7 u3 A → mm_V l G M_M_decode 0 0 7 [some (va_rf (some a)), some (.int p0), some (.int p1), some (.int u3), none] [] h (wQV G Q)) : ∀ (u3 : Int32) (s0 : Int32) (A : ab_H) (h : mm_H), Vw G h A → wq_M_decode_27 a p0 p1 Q k7 u3 s0 A → mm_V l G M_M_decode 0 0 27 [some (va_rf (some a)), some (.int p0), some (.int p1), some (.int u3), none] [.int s0] h (wQV G Q) := by
  intro u3 s0 A h hV hw
  unfold wq_M_decode_27 at hw
  refine mm_ist4 (pc' := 29) d_M_decode_27 rfl rfl (Nat.le_of_ble_eq_true rfl) ?_
  refine wr_aload_n (some a) (pc' := 30) d_M_decode_29 rfl rfl rfl ?_
  refine mm_iload (pc' := 32) d_M_decode_30 rfl rfl ?_
  refine wr_if_eq hw (pc' := 35) d_M_decode_32 rfl rfl (fun hw => ?_) (fun hw => ?_)
  · refine wr_aload_n (some a) (pc' := 63) d_M_decode_62 rfl rfl rfl ?_
    refine mm_iload_n (pc' := 64) d_M_decode_63 rfl rfl rfl ?_
    refine wr_cVI (pc' := 67) (as := [.int u3]) (st := [va_rf (some a)]) d_M_decode_64 rfl cs_M_102 rfl (W := fun b Q' => wp_M_byteAt b u3 A Q') hV hw (fun b Q' hw => sd_M_byteAt hV hw) rfl rfl (Nat.le_of_ble_eq_true rfl) (Nat.le_trans (wr_hR wr_h0) (Nat.le_of_ble_eq_true rfl)) (fun x2 h A hV hw => ?_)
    exact mm_drop (mm_le.s (mm_le.s (mm_le.s (mm_le.s (mm_le.s mm_le.e))))) (sq_M_decode_67 hk7 _ _ _ _ _ _ hV hw)
  · refine mm_bipush (v := 16) (pc' := 37) d_M_decode_35 rfl (by decide) ?_
    refine wr_aload_n (some a) (pc' := 38) d_M_decode_37 rfl rfl rfl ?_
    refine mm_iload_n (pc' := 39) d_M_decode_38 rfl rfl rfl ?_
    refine mm_iconst (v := 1) (pc' := 40) d_M_decode_39 rfl (by decide) ?_
    refine mm_iadd (pc' := 41) d_M_decode_40 rfl ?_
    refine wr_cVI (pc' := 44) (as := [.int (u3 + (1 : Int32))]) (st := [.int (16 : Int32), va_rf (some a)]) d_M_decode_41 rfl cs_M_102 rfl (W := fun b Q' => wp_M_byteAt b (u3 + (1 : Int32)) A Q') hV hw (fun b Q' hw => sd_M_byteAt hV hw) rfl rfl (Nat.le_of_ble_eq_true rfl) (Nat.le_trans (wr_hI (wr_hR wr_h0)) (Nat.le_of_ble_eq_true rfl)) (fun x3 h A hV hw => ?_)
    refine wr_cSI (pc' := 47) (as := [.int x3]) (st := [.int (16 : Int32), va_rf (some a)]) d_M_decode_44 rfl cs_M_106 (sd_M_hex hV hw) rfl rfl (Nat.le_of_ble_eq_true rfl) (Nat.le_trans (wr_hI (wr_hR wr_h0)) (Nat.le_of_ble_eq_true rfl)) (fun x4 h A hV hw => ?_)
    refine mm_imul (pc' := 48) d_M_decode_47 rfl ?_
    refine wr_aload_n (some a) (pc' := 49) d_M_decode_48 rfl rfl rfl ?_
    refine mm_iload_n (pc' := 50) d_M_decode_49 rfl rfl rfl ?_
    refine mm_iconst (v := 2) (pc' := 51) d_M_decode_50 rfl (by decide) ?_
    refine mm_iadd (pc' := 52) d_M_decode_51 rfl ?_
    refine wr_cVI (pc' := 55) (as := [.int (u3 + (2 : Int32))]) (st := [.int ((16 : Int32) * x4), va_rf (some a)]) d_M_decode_52 rfl cs_M_102 rfl (W := fun b Q' => wp_M_byteAt b (u3 + (2 : Int32)) A Q') hV hw (fun b Q' hw => sd_M_byteAt hV hw) rfl rfl (Nat.le_of_ble_eq_true rfl) (Nat.le_trans (wr_hI (wr_hR wr_h0)) (Nat.le_of_ble_eq_true rfl)) (fun x5 h A hV hw => ?_)
    refine wr_cSI (pc' := 58) (as := [.int x5]) (st := [.int ((16 : Int32) * x4), va_rf (some a)]) d_M_decode_55 rfl cs_M_106 (sd_M_hex hV hw) rfl rfl (Nat.le_of_ble_eq_true rfl) (Nat.le_trans (wr_hI (wr_hR wr_h0)) (Nat.le_of_ble_eq_true rfl)) (fun x6 h A hV hw => ?_)
    refine mm_iadd (pc' := 59) d_M_decode_58 rfl ?_
    refine mm_goto (tgt := 67) d_M_decode_59 rfl ?_
    exact mm_drop (mm_le.s (mm_le.s (mm_le.s (mm_le.s (mm_le.s mm_le.e))))) (sq_M_decode_67 hk7 _ _ _ _ _ _ hV hw)
def wb_M_decode_7 (a : Nat) (p0 : Int32) (p1 : Int32) (Q : ab_H → Prop)  (k7 : Int32 → ab_H → Prop) (u3 : Int32) (A : ab_H) : Prop := if p1 ≤ u3 then (Q A) else (wC A (some a) 14 (fun b => wp_M_byteAt b u3 A (fun x7 A => if x7 = (37 : Int32) then (wq_M_decode_27 a p0 p1 Q k7 u3 (1 : Int32) A) else (wq_M_decode_27 a p0 p1 Q k7 u3 (0 : Int32) A))))
def wq_M_decode_7 (a : Nat) (p0 : Int32) (p1 : Int32) (Q : ab_H → Prop)  : Nat → Int32 → ab_H → Prop
  | 0 => fun _ _ => False
  | n + 1 => wb_M_decode_7 a p0 p1 Q  (wq_M_decode_7 a p0 p1 Q  n)
set_option maxRecDepth 100000 in
set_option maxHeartbeats 4000000 in
theorem sq_M_decode_7 {l : Launch} {G : mm_G} {a : Nat} {p0 : Int32} {p1 : Int32} {Q : ab_H → Prop}   : ∀ (n : Nat) (u3 : Int32) (A : ab_H) (h : mm_H), Vw G h A → wq_M_decode_7 a p0 p1 Q  n u3 A → mm_V l G M_M_decode 0 0 7 [some (va_rf (some a)), some (.int p0), some (.int p1), some (.int u3), none] [] h (wQV G Q) := by
  intro n
  induction n with
  | zero =>
    intro u3 A h hV hw
    exact absurd hw id
  | succ n hk7 =>
    intro u3 A h hV hw
    have hw : wb_M_decode_7 a p0 p1 Q  (wq_M_decode_7 a p0 p1 Q  n) u3 A := hw
    unfold wb_M_decode_7 at hw
    refine mm_iload_n (pc' := 8) d_M_decode_7 rfl rfl rfl ?_
    refine mm_iload_n (pc' := 9) d_M_decode_8 rfl rfl rfl ?_
    refine wr_icmp_ge hw (pc' := 12) d_M_decode_9 rfl rfl (fun hw => ?_) (fun hw => ?_)
    · exact wr_vret hV d_M_decode_89 rfl hw
    · refine wr_aload_n (some a) (pc' := 13) d_M_decode_12 rfl rfl rfl ?_
      refine mm_iload_n (pc' := 14) d_M_decode_13 rfl rfl rfl ?_
      refine wr_cVI (pc' := 17) (as := [.int u3]) (st := []) d_M_decode_14 rfl cs_M_102 rfl (W := fun b Q' => wp_M_byteAt b u3 A Q') hV hw (fun b Q' hw => sd_M_byteAt hV hw) rfl rfl (Nat.le_of_ble_eq_true rfl) (Nat.le_of_ble_eq_true rfl) (fun x7 h A hV hw => ?_)
      refine mm_bipush (v := 37) (pc' := 19) d_M_decode_17 rfl (by decide) ?_
      refine wr_icmp_ne hw (pc' := 22) d_M_decode_19 rfl rfl (fun hw => ?_) (fun hw => ?_)
      · refine mm_iconst (v := 0) (pc' := 27) d_M_decode_26 rfl (by decide) ?_
        exact mm_drop (mm_le.s (mm_le.s (mm_le.s (mm_le.s (mm_le.n mm_le.e))))) (sq_M_decode_27 hk7 _ _ _ _ hV hw)
      · refine mm_iconst (v := 1) (pc' := 23) d_M_decode_22 rfl (by decide) ?_
        refine mm_goto (tgt := 27) d_M_decode_23 rfl ?_
        exact mm_drop (mm_le.s (mm_le.s (mm_le.s (mm_le.s (mm_le.n mm_le.e))))) (sq_M_decode_27 hk7 _ _ _ _ hV hw)
def wp_M_decode (a : Nat) (p0 : Int32) (p1 : Int32) (A : ab_H) (Q : ab_H → Prop) : Prop := wp A (some a) 14 40 (.int (0 : Int32)) (fun A => ∃ n, wq_M_decode_7 a p0 p1 Q n p0 A)
set_option maxRecDepth 100000 in
set_option maxHeartbeats 4000000 in
theorem sd_M_decode {l : Launch} {G : mm_G} {h : mm_H} {A : ab_H} {a : Nat} {p0 : Int32} {p1 : Int32} {Q : ab_H → Prop} (hV : Vw G h A) (hw : wp_M_decode a p0 p1 A Q) : mm_S l G M_M_decode [.ref a, .int p0, .int p1] h 0 0 (wQV G Q) := by
  unfold wp_M_decode at hw
  refine mm_start rfl (Nat.le_of_ble_eq_true rfl) ?_
  show mm_V l G M_M_decode 0 0 0 [some (va_rf (some a)), some (.int p0), some (.int p1), none, none] [] h _
  refine wr_aload_n (some a) (pc' := 1) d_M_decode_0 rfl rfl rfl ?_
  refine mm_iconst (v := 0) (pc' := 2) d_M_decode_1 rfl (by decide) ?_
  refine wr_put hV hw (pc' := 5) d_M_decode_2 rfl pl_M_decode_185 (Nat.le_of_ble_eq_true rfl) (wn_I _) (fun h A hV hw => ?_)
  refine mm_iload_n (pc' := 6) d_M_decode_5 rfl rfl rfl ?_
  refine mm_ist3 (pc' := 7) d_M_decode_6 rfl rfl (Nat.le_of_ble_eq_true rfl) ?_
  obtain ⟨n, hw⟩ := hw
  exact mm_drop (mm_le.s (mm_le.s (mm_le.s (mm_le.s (mm_le.n mm_le.e))))) (sq_M_decode_7  n _ _ _ hV hw)
theorem d_M_isSought_0 : decode prog_14_method_25_code 0 = .ok (.aload_n 0, 1) := by decide +kernel
theorem d_M_isSought_1 : decode prog_14_method_25_code 1 = .ok (.getfield 185, 3) := by decide +kernel
theorem d_M_isSought_4 : decode prog_14_method_25_code 4 = .ok (.aload_n 0, 1) := by decide +kernel
theorem d_M_isSought_5 : decode prog_14_method_25_code 5 = .ok (.getfield 192, 3) := by decide +kernel
theorem d_M_isSought_8 : decode prog_14_method_25_code 8 = .ok (.if_icmp .ne 7, 3) := by decide +kernel
theorem d_M_isSought_11 : decode prog_14_method_25_code 11 = .ok (.iconst 1, 1) := by decide +kernel
theorem d_M_isSought_12 : decode prog_14_method_25_code 12 = .ok (.goto 4, 3) := by decide +kernel
theorem d_M_isSought_15 : decode prog_14_method_25_code 15 = .ok (.iconst 0, 1) := by decide +kernel
theorem d_M_isSought_16 : decode prog_14_method_25_code 16 = .ok (.istore_n 2, 1) := by decide +kernel
theorem d_M_isSought_17 : decode prog_14_method_25_code 17 = .ok (.iconst 0, 1) := by decide +kernel
theorem d_M_isSought_18 : decode prog_14_method_25_code 18 = .ok (.istore_n 3, 1) := by decide +kernel
theorem d_M_isSought_19 : decode prog_14_method_25_code 19 = .ok (.iload_n 3, 1) := by decide +kernel
theorem d_M_isSought_20 : decode prog_14_method_25_code 20 = .ok (.aload_n 0, 1) := by decide +kernel
theorem d_M_isSought_21 : decode prog_14_method_25_code 21 = .ok (.getfield 185, 3) := by decide +kernel
theorem d_M_isSought_24 : decode prog_14_method_25_code 24 = .ok (.if_icmp .ge 67, 3) := by decide +kernel
theorem d_M_isSought_27 : decode prog_14_method_25_code 27 = .ok (.iload_n 2, 1) := by decide +kernel
theorem d_M_isSought_28 : decode prog_14_method_25_code 28 = .ok (.ifCond .eq 63, 3) := by decide +kernel
theorem d_M_isSought_31 : decode prog_14_method_25_code 31 = .ok (.iload_n 1, 1) := by decide +kernel
theorem d_M_isSought_32 : decode prog_14_method_25_code 32 = .ok (.ifCond .eq 32, 3) := by decide +kernel
theorem d_M_isSought_35 : decode prog_14_method_25_code 35 = .ok (.aload_n 0, 1) := by decide +kernel
theorem d_M_isSought_36 : decode prog_14_method_25_code 36 = .ok (.getfield 89, 3) := by decide +kernel
theorem d_M_isSought_39 : decode prog_14_method_25_code 39 = .ok (.iload_n 3, 1) := by decide +kernel
theorem d_M_isSought_40 : decode prog_14_method_25_code 40 = .ok (.iaload, 1) := by decide +kernel
theorem d_M_isSought_41 : decode prog_14_method_25_code 41 = .ok (.invokestatic 127, 3) := by decide +kernel
theorem d_M_isSought_44 : decode prog_14_method_25_code 44 = .ok (.aload_n 0, 1) := by decide +kernel
theorem d_M_isSought_45 : decode prog_14_method_25_code 45 = .ok (.getfield 86, 3) := by decide +kernel
theorem d_M_isSought_48 : decode prog_14_method_25_code 48 = .ok (.iload_n 3, 1) := by decide +kernel
theorem d_M_isSought_49 : decode prog_14_method_25_code 49 = .ok (.iaload, 1) := by decide +kernel
theorem d_M_isSought_50 : decode prog_14_method_25_code 50 = .ok (.invokestatic 127, 3) := by decide +kernel
theorem d_M_isSought_53 : decode prog_14_method_25_code 53 = .ok (.if_icmp .ne 7, 3) := by decide +kernel
theorem d_M_isSought_56 : decode prog_14_method_25_code 56 = .ok (.iconst 1, 1) := by decide +kernel
theorem d_M_isSought_57 : decode prog_14_method_25_code 57 = .ok (.goto 27, 3) := by decide +kernel
theorem d_M_isSought_60 : decode prog_14_method_25_code 60 = .ok (.iconst 0, 1) := by decide +kernel
theorem d_M_isSought_61 : decode prog_14_method_25_code 61 = .ok (.goto 23, 3) := by decide +kernel
theorem d_M_isSought_64 : decode prog_14_method_25_code 64 = .ok (.aload_n 0, 1) := by decide +kernel
theorem d_M_isSought_65 : decode prog_14_method_25_code 65 = .ok (.getfield 89, 3) := by decide +kernel
theorem d_M_isSought_68 : decode prog_14_method_25_code 68 = .ok (.iload_n 3, 1) := by decide +kernel
theorem d_M_isSought_69 : decode prog_14_method_25_code 69 = .ok (.iaload, 1) := by decide +kernel
theorem d_M_isSought_70 : decode prog_14_method_25_code 70 = .ok (.aload_n 0, 1) := by decide +kernel
theorem d_M_isSought_71 : decode prog_14_method_25_code 71 = .ok (.getfield 86, 3) := by decide +kernel
theorem d_M_isSought_74 : decode prog_14_method_25_code 74 = .ok (.iload_n 3, 1) := by decide +kernel
theorem d_M_isSought_75 : decode prog_14_method_25_code 75 = .ok (.iaload, 1) := by decide +kernel
theorem d_M_isSought_76 : decode prog_14_method_25_code 76 = .ok (.if_icmp .ne 7, 3) := by decide +kernel
theorem d_M_isSought_79 : decode prog_14_method_25_code 79 = .ok (.iconst 1, 1) := by decide +kernel
theorem d_M_isSought_80 : decode prog_14_method_25_code 80 = .ok (.goto 4, 3) := by decide +kernel
theorem d_M_isSought_83 : decode prog_14_method_25_code 83 = .ok (.iconst 0, 1) := by decide +kernel
theorem d_M_isSought_84 : decode prog_14_method_25_code 84 = .ok (.istore_n 2, 1) := by decide +kernel
theorem d_M_isSought_85 : decode prog_14_method_25_code 85 = .ok (.iinc 3 1, 3) := by decide +kernel
theorem d_M_isSought_88 : decode prog_14_method_25_code 88 = .ok (.goto (-69), 3) := by decide +kernel
theorem d_M_isSought_91 : decode prog_14_method_25_code 91 = .ok (.iload_n 2, 1) := by decide +kernel
theorem d_M_isSought_92 : decode prog_14_method_25_code 92 = .ok (.ireturn, 1) := by decide +kernel
def wb_M_isSought_19 (a : Nat) (p0 : Int32) (Q : Int32 → ab_H → Prop)  (k19 : Int32 → Int32 → ab_H → Prop) (u2 : Int32) (u3 : Int32) (A : ab_H) : Prop := wgI A (some a) 14 40 (fun x1 => if x1 ≤ u3 then (wB u2 (Q u2 A)) else (if u2 = 0 then (wB u2 (Q u2 A)) else (if p0 = 0 then (wgR A (some a) 14 39 (fun r2 => wAI A r2 u3 (fun x3 => wgR A (some a) 14 37 (fun r4 => wAI A r4 u3 (fun x5 => if x3 = x5 then (k19 (1 : Int32) (u3 + 1) A) else (k19 (0 : Int32) (u3 + 1) A)))))) else (wgR A (some a) 14 39 (fun r6 => wAI A r6 u3 (fun x7 => wp_M_small x7 A (fun x8 A => wgR A (some a) 14 37 (fun r9 => wAI A r9 u3 (fun x10 => wp_M_small x10 A (fun x11 A => if x8 = x11 then (k19 (1 : Int32) (u3 + 1) A) else (k19 (0 : Int32) (u3 + 1) A)))))))))))
def wq_M_isSought_19 (a : Nat) (p0 : Int32) (Q : Int32 → ab_H → Prop)  : Nat → Int32 → Int32 → ab_H → Prop
  | 0 => fun _ _ _ => False
  | n + 1 => wb_M_isSought_19 a p0 Q  (wq_M_isSought_19 a p0 Q  n)
set_option maxRecDepth 100000 in
set_option maxHeartbeats 4000000 in
theorem sq_M_isSought_19 {l : Launch} {G : mm_G} {a : Nat} {p0 : Int32} {Q : Int32 → ab_H → Prop}   : ∀ (n : Nat) (u2 : Int32) (u3 : Int32) (A : ab_H) (h : mm_H), Vw G h A → wq_M_isSought_19 a p0 Q  n u2 u3 A → mm_V l G M_M_isSought 0 0 19 [some (va_rf (some a)), some (.int p0), some (.int u2), some (.int u3)] [] h (wQI G Q) := by
  intro n
  induction n with
  | zero =>
    intro u2 u3 A h hV hw
    exact absurd hw id
  | succ n hk19 =>
    intro u2 u3 A h hV hw
    have hw : wb_M_isSought_19 a p0 Q  (wq_M_isSought_19 a p0 Q  n) u2 u3 A := hw
    unfold wb_M_isSought_19 at hw
    refine mm_iload_n (pc' := 20) d_M_isSought_19 rfl rfl rfl ?_
    refine wr_aload_n (some a) (pc' := 21) d_M_isSought_20 rfl rfl rfl ?_
    refine wr_getI hV hw (pc' := 24) d_M_isSought_21 rfl fl_M_185 (fun x1 hw => ?_)
    refine wr_icmp_ge hw (pc' := 27) d_M_isSought_24 rfl rfl (fun hw => ?_) (fun hw => ?_)
    · refine mm_iload_n (pc' := 92) d_M_isSought_91 rfl rfl rfl ?_
      obtain ⟨hb, hw⟩ := hw
      exact wr_iret hV d_M_isSought_92 rfl (wn_b hb) hw
    · refine mm_iload_n (pc' := 28) d_M_isSought_27 rfl rfl rfl ?_
      refine wr_if_eq hw (pc' := 31) d_M_isSought_28 rfl rfl (fun hw => ?_) (fun hw => ?_)
      · refine mm_iload_n (pc' := 92) d_M_isSought_91 rfl rfl rfl ?_
        obtain ⟨hb, hw⟩ := hw
        exact wr_iret hV d_M_isSought_92 rfl (wn_b hb) hw
      · refine mm_iload_n (pc' := 32) d_M_isSought_31 rfl rfl rfl ?_
        refine wr_if_eq hw (pc' := 35) d_M_isSought_32 rfl rfl (fun hw => ?_) (fun hw => ?_)
        · refine wr_aload_n (some a) (pc' := 65) d_M_isSought_64 rfl rfl rfl ?_
          refine wr_getR hV hw (pc' := 68) d_M_isSought_65 rfl fl_M_89 (fun r2 hw => ?_)
          refine mm_iload_n (pc' := 69) d_M_isSought_68 rfl rfl rfl ?_
          refine wr_aldI hV hw (pc' := 70) d_M_isSought_69 rfl (fun x3 hw => ?_)
          refine wr_aload_n (some a) (pc' := 71) d_M_isSought_70 rfl rfl rfl ?_
          refine wr_getR hV hw (pc' := 74) d_M_isSought_71 rfl fl_M_86 (fun r4 hw => ?_)
          refine mm_iload_n (pc' := 75) d_M_isSought_74 rfl rfl rfl ?_
          refine wr_aldI hV hw (pc' := 76) d_M_isSought_75 rfl (fun x5 hw => ?_)
          refine wr_icmp_ne hw (pc' := 79) d_M_isSought_76 rfl rfl (fun hw => ?_) (fun hw => ?_)
          · refine mm_iconst (v := 0) (pc' := 84) d_M_isSought_83 rfl (by decide) ?_
            refine mm_ist2 (pc' := 85) d_M_isSought_84 rfl rfl (Nat.le_of_ble_eq_true rfl) ?_
            refine mm_iinc3 (v := (u3 + 1)) (pc' := 88) d_M_isSought_85 rfl rfl rfl (Nat.le_of_ble_eq_true rfl) ?_
            refine mm_goto (tgt := 19) d_M_isSought_88 rfl ?_
            exact mm_drop (mm_le.s (mm_le.s (mm_le.s (mm_le.s mm_le.e)))) (hk19 _ _ _ _ hV hw)
          · refine mm_iconst (v := 1) (pc' := 80) d_M_isSought_79 rfl (by decide) ?_
            refine mm_goto (tgt := 84) d_M_isSought_80 rfl ?_
            refine mm_ist2 (pc' := 85) d_M_isSought_84 rfl rfl (Nat.le_of_ble_eq_true rfl) ?_
            refine mm_iinc3 (v := (u3 + 1)) (pc' := 88) d_M_isSought_85 rfl rfl rfl (Nat.le_of_ble_eq_true rfl) ?_
            refine mm_goto (tgt := 19) d_M_isSought_88 rfl ?_
            exact mm_drop (mm_le.s (mm_le.s (mm_le.s (mm_le.s mm_le.e)))) (hk19 _ _ _ _ hV hw)
        · refine wr_aload_n (some a) (pc' := 36) d_M_isSought_35 rfl rfl rfl ?_
          refine wr_getR hV hw (pc' := 39) d_M_isSought_36 rfl fl_M_89 (fun r6 hw => ?_)
          refine mm_iload_n (pc' := 40) d_M_isSought_39 rfl rfl rfl ?_
          refine wr_aldI hV hw (pc' := 41) d_M_isSought_40 rfl (fun x7 hw => ?_)
          refine wr_cSI (pc' := 44) (as := [.int x7]) (st := []) d_M_isSought_41 rfl cs_M_127 (sd_M_small hV hw) rfl rfl (Nat.le_of_ble_eq_true rfl) (Nat.le_of_ble_eq_true rfl) (fun x8 h A hV hw => ?_)
          refine wr_aload_n (some a) (pc' := 45) d_M_isSought_44 rfl rfl rfl ?_
          refine wr_getR hV hw (pc' := 48) d_M_isSought_45 rfl fl_M_86 (fun r9 hw => ?_)
          refine mm_iload_n (pc' := 49) d_M_isSought_48 rfl rfl rfl ?_
          refine wr_aldI hV hw (pc' := 50) d_M_isSought_49 rfl (fun x10 hw => ?_)
          refine wr_cSI (pc' := 53) (as := [.int x10]) (st := [.int x8]) d_M_isSought_50 rfl cs_M_127 (sd_M_small hV hw) rfl rfl (Nat.le_of_ble_eq_true rfl) (Nat.le_of_ble_eq_true rfl) (fun x11 h A hV hw => ?_)
          refine wr_icmp_ne hw (pc' := 56) d_M_isSought_53 rfl rfl (fun hw => ?_) (fun hw => ?_)
          · refine mm_iconst (v := 0) (pc' := 61) d_M_isSought_60 rfl (by decide) ?_
            refine mm_goto (tgt := 84) d_M_isSought_61 rfl ?_
            refine mm_ist2 (pc' := 85) d_M_isSought_84 rfl rfl (Nat.le_of_ble_eq_true rfl) ?_
            refine mm_iinc3 (v := (u3 + 1)) (pc' := 88) d_M_isSought_85 rfl rfl rfl (Nat.le_of_ble_eq_true rfl) ?_
            refine mm_goto (tgt := 19) d_M_isSought_88 rfl ?_
            exact mm_drop (mm_le.s (mm_le.s (mm_le.s (mm_le.s mm_le.e)))) (hk19 _ _ _ _ hV hw)
          · refine mm_iconst (v := 1) (pc' := 57) d_M_isSought_56 rfl (by decide) ?_
            refine mm_goto (tgt := 84) d_M_isSought_57 rfl ?_
            refine mm_ist2 (pc' := 85) d_M_isSought_84 rfl rfl (Nat.le_of_ble_eq_true rfl) ?_
            refine mm_iinc3 (v := (u3 + 1)) (pc' := 88) d_M_isSought_85 rfl rfl rfl (Nat.le_of_ble_eq_true rfl) ?_
            refine mm_goto (tgt := 19) d_M_isSought_88 rfl ?_
            exact mm_drop (mm_le.s (mm_le.s (mm_le.s (mm_le.s mm_le.e)))) (hk19 _ _ _ _ hV hw)
def wq_M_isSought_16 (a : Nat) (p0 : Int32) (Q : Int32 → ab_H → Prop)  (s0 : Int32) (A : ab_H) : Prop := ∃ n, wq_M_isSought_19 a p0 Q n s0 (0 : Int32) A
set_option maxRecDepth 100000 in
set_option maxHeartbeats 4000000 in
theorem sq_M_isSought_16 {l : Launch} {G : mm_G} {a : Nat} {p0 : Int32} {Q : Int32 → ab_H → Prop}   : ∀ (s0 : Int32) (A : ab_H) (h : mm_H), Vw G h A → wq_M_isSought_16 a p0 Q  s0 A → mm_V l G M_M_isSought 0 0 16 [some (va_rf (some a)), some (.int p0), none, none] [.int s0] h (wQI G Q) := by
  intro s0 A h hV hw
  unfold wq_M_isSought_16 at hw
  refine mm_ist2 (pc' := 17) d_M_isSought_16 rfl rfl (Nat.le_of_ble_eq_true rfl) ?_
  refine mm_iconst (v := 0) (pc' := 18) d_M_isSought_17 rfl (by decide) ?_
  refine mm_ist3 (pc' := 19) d_M_isSought_18 rfl rfl (Nat.le_of_ble_eq_true rfl) ?_
  obtain ⟨n, hw⟩ := hw
  exact mm_drop (mm_le.s (mm_le.s (mm_le.s (mm_le.s mm_le.e)))) (sq_M_isSought_19  n _ _ _ _ hV hw)
def wp_M_isSought (a : Nat) (p0 : Int32) (A : ab_H) (Q : Int32 → ab_H → Prop) : Prop := wgI A (some a) 14 40 (fun x12 => wgI A (some a) 14 38 (fun x13 => if x12 = x13 then (wq_M_isSought_16 a p0 Q (1 : Int32) A) else (wq_M_isSought_16 a p0 Q (0 : Int32) A)))
set_option maxRecDepth 100000 in
set_option maxHeartbeats 4000000 in
theorem sd_M_isSought {l : Launch} {G : mm_G} {h : mm_H} {A : ab_H} {a : Nat} {p0 : Int32} {Q : Int32 → ab_H → Prop} (hV : Vw G h A) (hw : wp_M_isSought a p0 A Q) : mm_S l G M_M_isSought [.ref a, .int p0] h 0 0 (wQI G Q) := by
  unfold wp_M_isSought at hw
  refine mm_start rfl (Nat.le_of_ble_eq_true rfl) ?_
  show mm_V l G M_M_isSought 0 0 0 [some (va_rf (some a)), some (.int p0), none, none] [] h _
  refine wr_aload_n (some a) (pc' := 1) d_M_isSought_0 rfl rfl rfl ?_
  refine wr_getI hV hw (pc' := 4) d_M_isSought_1 rfl fl_M_185 (fun x12 hw => ?_)
  refine wr_aload_n (some a) (pc' := 5) d_M_isSought_4 rfl rfl rfl ?_
  refine wr_getI hV hw (pc' := 8) d_M_isSought_5 rfl fl_M_192 (fun x13 hw => ?_)
  refine wr_icmp_ne hw (pc' := 11) d_M_isSought_8 rfl rfl (fun hw => ?_) (fun hw => ?_)
  · refine mm_iconst (v := 0) (pc' := 16) d_M_isSought_15 rfl (by decide) ?_
    exact mm_drop (mm_le.s (mm_le.s (mm_le.n (mm_le.n mm_le.e)))) (sq_M_isSought_16  _ _ _ hV hw)
  · refine mm_iconst (v := 1) (pc' := 12) d_M_isSought_11 rfl (by decide) ?_
    refine mm_goto (tgt := 16) d_M_isSought_12 rfl ?_
    exact mm_drop (mm_le.s (mm_le.s (mm_le.n (mm_le.n mm_le.e)))) (sq_M_isSought_16  _ _ _ hV hw)
theorem d_M_parameter_0 : decode prog_14_method_26_code 0 = .ok (.aload_n 0, 1) := by decide +kernel
theorem d_M_parameter_1 : decode prog_14_method_26_code 1 = .ok (.invokevirtual 117, 3) := by decide +kernel
theorem d_M_parameter_4 : decode prog_14_method_26_code 4 = .ok (.istore_n 1, 1) := by decide +kernel
theorem d_M_parameter_5 : decode prog_14_method_26_code 5 = .ok (.aload_n 0, 1) := by decide +kernel
theorem d_M_parameter_6 : decode prog_14_method_26_code 6 = .ok (.invokevirtual 120, 3) := by decide +kernel
theorem d_M_parameter_9 : decode prog_14_method_26_code 9 = .ok (.iconst 1, 1) := by decide +kernel
theorem d_M_parameter_10 : decode prog_14_method_26_code 10 = .ok (.iadd, 1) := by decide +kernel
theorem d_M_parameter_11 : decode prog_14_method_26_code 11 = .ok (.istore_n 2, 1) := by decide +kernel
theorem d_M_parameter_12 : decode prog_14_method_26_code 12 = .ok (.iload_n 2, 1) := by decide +kernel
theorem d_M_parameter_13 : decode prog_14_method_26_code 13 = .ok (.iload_n 1, 1) := by decide +kernel
theorem d_M_parameter_14 : decode prog_14_method_26_code 14 = .ok (.if_icmp .ge 72, 3) := by decide +kernel
theorem d_M_parameter_17 : decode prog_14_method_26_code 17 = .ok (.aload_n 0, 1) := by decide +kernel
theorem d_M_parameter_18 : decode prog_14_method_26_code 18 = .ok (.bipush 38, 2) := by decide +kernel
theorem d_M_parameter_20 : decode prog_14_method_26_code 20 = .ok (.iload_n 2, 1) := by decide +kernel
theorem d_M_parameter_21 : decode prog_14_method_26_code 21 = .ok (.iload_n 1, 1) := by decide +kernel
theorem d_M_parameter_22 : decode prog_14_method_26_code 22 = .ok (.invokevirtual 109, 3) := by decide +kernel
theorem d_M_parameter_25 : decode prog_14_method_26_code 25 = .ok (.istore_n 3, 1) := by decide +kernel
theorem d_M_parameter_26 : decode prog_14_method_26_code 26 = .ok (.aload_n 0, 1) := by decide +kernel
theorem d_M_parameter_27 : decode prog_14_method_26_code 27 = .ok (.bipush 61, 2) := by decide +kernel
theorem d_M_parameter_29 : decode prog_14_method_26_code 29 = .ok (.iload_n 2, 1) := by decide +kernel
theorem d_M_parameter_30 : decode prog_14_method_26_code 30 = .ok (.iload_n 3, 1) := by decide +kernel
theorem d_M_parameter_31 : decode prog_14_method_26_code 31 = .ok (.invokevirtual 109, 3) := by decide +kernel
theorem d_M_parameter_34 : decode prog_14_method_26_code 34 = .ok (.istore 4, 2) := by decide +kernel
theorem d_M_parameter_36 : decode prog_14_method_26_code 36 = .ok (.aload_n 0, 1) := by decide +kernel
theorem d_M_parameter_37 : decode prog_14_method_26_code 37 = .ok (.iload_n 2, 1) := by decide +kernel
theorem d_M_parameter_38 : decode prog_14_method_26_code 38 = .ok (.iload 4, 2) := by decide +kernel
theorem d_M_parameter_40 : decode prog_14_method_26_code 40 = .ok (.invokevirtual 195, 3) := by decide +kernel
theorem d_M_parameter_43 : decode prog_14_method_26_code 43 = .ok (.aload_n 0, 1) := by decide +kernel
theorem d_M_parameter_44 : decode prog_14_method_26_code 44 = .ok (.iconst 0, 1) := by decide +kernel
theorem d_M_parameter_45 : decode prog_14_method_26_code 45 = .ok (.invokevirtual 199, 3) := by decide +kernel
theorem d_M_parameter_48 : decode prog_14_method_26_code 48 = .ok (.ifCond .eq 24, 3) := by decide +kernel
theorem d_M_parameter_51 : decode prog_14_method_26_code 51 = .ok (.aload_n 0, 1) := by decide +kernel
theorem d_M_parameter_52 : decode prog_14_method_26_code 52 = .ok (.iload 4, 2) := by decide +kernel
theorem d_M_parameter_54 : decode prog_14_method_26_code 54 = .ok (.iload_n 3, 1) := by decide +kernel
theorem d_M_parameter_55 : decode prog_14_method_26_code 55 = .ok (.if_icmp .ge 10, 3) := by decide +kernel
theorem d_M_parameter_58 : decode prog_14_method_26_code 58 = .ok (.iload 4, 2) := by decide +kernel
theorem d_M_parameter_60 : decode prog_14_method_26_code 60 = .ok (.iconst 1, 1) := by decide +kernel
theorem d_M_parameter_61 : decode prog_14_method_26_code 61 = .ok (.iadd, 1) := by decide +kernel
theorem d_M_parameter_62 : decode prog_14_method_26_code 62 = .ok (.goto 4, 3) := by decide +kernel
theorem d_M_parameter_65 : decode prog_14_method_26_code 65 = .ok (.iload_n 3, 1) := by decide +kernel
theorem d_M_parameter_66 : decode prog_14_method_26_code 66 = .ok (.iload_n 3, 1) := by decide +kernel
theorem d_M_parameter_67 : decode prog_14_method_26_code 67 = .ok (.invokevirtual 195, 3) := by decide +kernel
theorem d_M_parameter_70 : decode prog_14_method_26_code 70 = .ok (.iconst 1, 1) := by decide +kernel
theorem d_M_parameter_71 : decode prog_14_method_26_code 71 = .ok (.ireturn, 1) := by decide +kernel
theorem d_M_parameter_72 : decode prog_14_method_26_code 72 = .ok (.aload_n 0, 1) := by decide +kernel
theorem d_M_parameter_73 : decode prog_14_method_26_code 73 = .ok (.bipush 38, 2) := by decide +kernel
theorem d_M_parameter_75 : decode prog_14_method_26_code 75 = .ok (.iload_n 2, 1) := by decide +kernel
theorem d_M_parameter_76 : decode prog_14_method_26_code 76 = .ok (.iload_n 1, 1) := by decide +kernel
theorem d_M_parameter_77 : decode prog_14_method_26_code 77 = .ok (.invokevirtual 109, 3) := by decide +kernel
theorem d_M_parameter_80 : decode prog_14_method_26_code 80 = .ok (.iconst 1, 1) := by decide +kernel
theorem d_M_parameter_81 : decode prog_14_method_26_code 81 = .ok (.iadd, 1) := by decide +kernel
theorem d_M_parameter_82 : decode prog_14_method_26_code 82 = .ok (.istore_n 2, 1) := by decide +kernel
theorem d_M_parameter_83 : decode prog_14_method_26_code 83 = .ok (.goto (-71), 3) := by decide +kernel
theorem d_M_parameter_86 : decode prog_14_method_26_code 86 = .ok (.iconst 0, 1) := by decide +kernel
theorem d_M_parameter_87 : decode prog_14_method_26_code 87 = .ok (.ireturn, 1) := by decide +kernel
def wq_M_parameter_66 (a : Nat) (Q : Int32 → ab_H → Prop)  (u3 : Int32) (s0 : Option Nat) (s1 : Int32) (A : ab_H) : Prop := wC A s0 14 (fun b => wp_M_decode b s1 u3 A (fun A => Q (1 : Int32) A))
set_option maxRecDepth 100000 in
set_option maxHeartbeats 4000000 in
theorem sq_M_parameter_66 {l : Launch} {G : mm_G} {a : Nat} {Q : Int32 → ab_H → Prop}   : ∀ (u3 : Int32) (s0 : Option Nat) (s1 : Int32) (A : ab_H) (h : mm_H), Vw G h A → wq_M_parameter_66 a Q  u3 s0 s1 A → mm_V l G M_M_parameter 0 0 66 [some (va_rf (some a)), none, none, some (.int u3), none] [.int s1, va_rf s0] h (wQI G Q) := by
  intro u3 s0 s1 A h hV hw
  unfold wq_M_parameter_66 at hw
  refine mm_iload_n (pc' := 67) d_M_parameter_66 rfl rfl rfl ?_
  refine wr_cVV (pc' := 70) (as := [.int s1, .int u3]) (st := []) d_M_parameter_67 rfl cs_M_195 rfl (W := fun b Q' => wp_M_decode b s1 u3 A Q') hV hw (fun b Q' hw => sd_M_decode hV hw) rfl rfl (Nat.le_of_ble_eq_true rfl) (Nat.le_of_ble_eq_true rfl) (fun h A hV hw => ?_)
  refine mm_iconst (v := 1) (pc' := 71) d_M_parameter_70 rfl (by decide) ?_
  exact wr_iret hV d_M_parameter_71 rfl rfl hw
def wq_M_parameter_51 (a : Nat) (Q : Int32 → ab_H → Prop)  (u3 : Int32) (u4 : Int32) (A : ab_H) : Prop := if u3 ≤ u4 then (wq_M_parameter_66 a Q u3 (some a) u3 A) else (wq_M_parameter_66 a Q u3 (some a) (u4 + (1 : Int32)) A)
set_option maxRecDepth 100000 in
set_option maxHeartbeats 4000000 in
theorem sq_M_parameter_51 {l : Launch} {G : mm_G} {a : Nat} {Q : Int32 → ab_H → Prop}   : ∀ (u3 : Int32) (u4 : Int32) (A : ab_H) (h : mm_H), Vw G h A → wq_M_parameter_51 a Q  u3 u4 A → mm_V l G M_M_parameter 0 0 51 [some (va_rf (some a)), none, none, some (.int u3), some (.int u4)] [] h (wQI G Q) := by
  intro u3 u4 A h hV hw
  unfold wq_M_parameter_51 at hw
  refine wr_aload_n (some a) (pc' := 52) d_M_parameter_51 rfl rfl rfl ?_
  refine mm_iload (pc' := 54) d_M_parameter_52 rfl rfl ?_
  refine mm_iload_n (pc' := 55) d_M_parameter_54 rfl rfl rfl ?_
  refine wr_icmp_ge hw (pc' := 58) d_M_parameter_55 rfl rfl (fun hw => ?_) (fun hw => ?_)
  · refine mm_iload_n (pc' := 66) d_M_parameter_65 rfl rfl rfl ?_
    exact mm_drop (mm_le.s (mm_le.n (mm_le.n (mm_le.s (mm_le.n mm_le.e))))) (sq_M_parameter_66  _ _ _ _ _ hV hw)
  · refine mm_iload (pc' := 60) d_M_parameter_58 rfl rfl ?_
    refine mm_iconst (v := 1) (pc' := 61) d_M_parameter_60 rfl (by decide) ?_
    refine mm_iadd (pc' := 62) d_M_parameter_61 rfl ?_
    refine mm_goto (tgt := 66) d_M_parameter_62 rfl ?_
    exact mm_drop (mm_le.s (mm_le.n (mm_le.n (mm_le.s (mm_le.n mm_le.e))))) (sq_M_parameter_66  _ _ _ _ _ hV hw)
def wb_M_parameter_12 (a : Nat) (Q : Int32 → ab_H → Prop)  (k12 : Int32 → Int32 → ab_H → Prop) (u1 : Int32) (u2 : Int32) (A : ab_H) : Prop := if u1 ≤ u2 then (Q (0 : Int32) A) else (wC A (some a) 14 (fun b => wp_M_seek b (38 : Int32) u2 u1 A (fun x1 A => wC A (some a) 14 (fun b => wp_M_seek b (61 : Int32) u2 x1 A (fun x2 A => wC A (some a) 14 (fun b => wp_M_decode b u2 x2 A (fun A => wC A (some a) 14 (fun b => wp_M_isSought b (0 : Int32) A (fun x3 A => if x3 = 0 then (wC A (some a) 14 (fun b => wp_M_seek b (38 : Int32) u2 u1 A (fun x4 A => wL ((x4 + (1 : Int32))) (fun x5 => k12 u1 x5 A)))) else (wq_M_parameter_51 a Q x1 x2 A))))))))))
def wq_M_parameter_12 (a : Nat) (Q : Int32 → ab_H → Prop)  : Nat → Int32 → Int32 → ab_H → Prop
  | 0 => fun _ _ _ => False
  | n + 1 => wb_M_parameter_12 a Q  (wq_M_parameter_12 a Q  n)
set_option maxRecDepth 100000 in
set_option maxHeartbeats 4000000 in
theorem sq_M_parameter_12 {l : Launch} {G : mm_G} {a : Nat} {Q : Int32 → ab_H → Prop}   : ∀ (n : Nat) (u1 : Int32) (u2 : Int32) (A : ab_H) (h : mm_H), Vw G h A → wq_M_parameter_12 a Q  n u1 u2 A → mm_V l G M_M_parameter 0 0 12 [some (va_rf (some a)), some (.int u1), some (.int u2), none, none] [] h (wQI G Q) := by
  intro n
  induction n with
  | zero =>
    intro u1 u2 A h hV hw
    exact absurd hw id
  | succ n hk12 =>
    intro u1 u2 A h hV hw
    have hw : wb_M_parameter_12 a Q  (wq_M_parameter_12 a Q  n) u1 u2 A := hw
    unfold wb_M_parameter_12 at hw
    refine mm_iload_n (pc' := 13) d_M_parameter_12 rfl rfl rfl ?_
    refine mm_iload_n (pc' := 14) d_M_parameter_13 rfl rfl rfl ?_
    refine wr_icmp_ge hw (pc' := 17) d_M_parameter_14 rfl rfl (fun hw => ?_) (fun hw => ?_)
    · refine mm_iconst (v := 0) (pc' := 87) d_M_parameter_86 rfl (by decide) ?_
      exact wr_iret hV d_M_parameter_87 rfl rfl hw
    · refine wr_aload_n (some a) (pc' := 18) d_M_parameter_17 rfl rfl rfl ?_
      refine mm_bipush (v := 38) (pc' := 20) d_M_parameter_18 rfl (by decide) ?_
      refine mm_iload_n (pc' := 21) d_M_parameter_20 rfl rfl rfl ?_
      refine mm_iload_n (pc' := 22) d_M_parameter_21 rfl rfl rfl ?_
      refine wr_cVI (pc' := 25) (as := [.int (38 : Int32), .int u2, .int u1]) (st := []) d_M_parameter_22 rfl cs_M_109 rfl (W := fun b Q' => wp_M_seek b (38 : Int32) u2 u1 A Q') hV hw (fun b Q' hw => sd_M_seek hV hw) rfl rfl (Nat.le_of_ble_eq_true rfl) (Nat.le_of_ble_eq_true rfl) (fun x1 h A hV hw => ?_)
      refine mm_ist3 (pc' := 26) d_M_parameter_25 rfl rfl (Nat.le_of_ble_eq_true rfl) ?_
      refine wr_aload_n (some a) (pc' := 27) d_M_parameter_26 rfl rfl rfl ?_
      refine mm_bipush (v := 61) (pc' := 29) d_M_parameter_27 rfl (by decide) ?_
      refine mm_iload_n (pc' := 30) d_M_parameter_29 rfl rfl rfl ?_
      refine mm_iload_n (pc' := 31) d_M_parameter_30 rfl rfl rfl ?_
      refine wr_cVI (pc' := 34) (as := [.int (61 : Int32), .int u2, .int x1]) (st := []) d_M_parameter_31 rfl cs_M_109 rfl (W := fun b Q' => wp_M_seek b (61 : Int32) u2 x1 A Q') hV hw (fun b Q' hw => sd_M_seek hV hw) rfl rfl (Nat.le_of_ble_eq_true rfl) (Nat.le_of_ble_eq_true rfl) (fun x2 h A hV hw => ?_)
      refine mm_ist4 (pc' := 36) d_M_parameter_34 rfl rfl (Nat.le_of_ble_eq_true rfl) ?_
      refine wr_aload_n (some a) (pc' := 37) d_M_parameter_36 rfl rfl rfl ?_
      refine mm_iload_n (pc' := 38) d_M_parameter_37 rfl rfl rfl ?_
      refine mm_iload (pc' := 40) d_M_parameter_38 rfl rfl ?_
      refine wr_cVV (pc' := 43) (as := [.int u2, .int x2]) (st := []) d_M_parameter_40 rfl cs_M_195 rfl (W := fun b Q' => wp_M_decode b u2 x2 A Q') hV hw (fun b Q' hw => sd_M_decode hV hw) rfl rfl (Nat.le_of_ble_eq_true rfl) (Nat.le_of_ble_eq_true rfl) (fun h A hV hw => ?_)
      refine wr_aload_n (some a) (pc' := 44) d_M_parameter_43 rfl rfl rfl ?_
      refine mm_iconst (v := 0) (pc' := 45) d_M_parameter_44 rfl (by decide) ?_
      refine wr_cVI (pc' := 48) (as := [.int (0 : Int32)]) (st := []) d_M_parameter_45 rfl cs_M_199 rfl (W := fun b Q' => wp_M_isSought b (0 : Int32) A Q') hV hw (fun b Q' hw => sd_M_isSought hV hw) rfl rfl (Nat.le_of_ble_eq_true rfl) (Nat.le_of_ble_eq_true rfl) (fun x3 h A hV hw => ?_)
      refine wr_if_eq hw (pc' := 51) d_M_parameter_48 rfl rfl (fun hw => ?_) (fun hw => ?_)
      · refine wr_aload_n (some a) (pc' := 73) d_M_parameter_72 rfl rfl rfl ?_
        refine mm_bipush (v := 38) (pc' := 75) d_M_parameter_73 rfl (by decide) ?_
        refine mm_iload_n (pc' := 76) d_M_parameter_75 rfl rfl rfl ?_
        refine mm_iload_n (pc' := 77) d_M_parameter_76 rfl rfl rfl ?_
        refine wr_cVI (pc' := 80) (as := [.int (38 : Int32), .int u2, .int u1]) (st := []) d_M_parameter_77 rfl cs_M_109 rfl (W := fun b Q' => wp_M_seek b (38 : Int32) u2 u1 A Q') hV hw (fun b Q' hw => sd_M_seek hV hw) rfl rfl (Nat.le_of_ble_eq_true rfl) (Nat.le_of_ble_eq_true rfl) (fun x4 h A hV hw => ?_)
        refine mm_iconst (v := 1) (pc' := 81) d_M_parameter_80 rfl (by decide) ?_
        refine mm_iadd (pc' := 82) d_M_parameter_81 rfl ?_
        refine wr_let (P := fun z => mm_V l G M_M_parameter 0 0 82 [some (va_rf (some a)), some (.int u1), some (.int u2), some (.int x1), some (.int x2)] (.int z :: []) h _) hw (fun x5 hw => ?_)
        refine mm_ist2 (pc' := 83) d_M_parameter_82 rfl rfl (Nat.le_of_ble_eq_true rfl) ?_
        refine mm_goto (tgt := 12) d_M_parameter_83 rfl ?_
        exact mm_drop (mm_le.s (mm_le.s (mm_le.s (mm_le.n (mm_le.n mm_le.e))))) (hk12 _ _ _ _ hV hw)
      · exact mm_drop (mm_le.s (mm_le.n (mm_le.n (mm_le.s (mm_le.s mm_le.e))))) (sq_M_parameter_51  _ _ _ _ hV hw)
def wp_M_parameter (a : Nat) (A : ab_H) (Q : Int32 → ab_H → Prop) : Prop := wC A (some a) 14 (fun b => wp_M_targetEnd b  A (fun x6 A => wC A (some a) 14 (fun b => wp_M_pathEnd b  A (fun x7 A => wL ((x7 + (1 : Int32))) (fun x8 => ∃ n, wq_M_parameter_12 a Q n x6 x8 A)))))
set_option maxRecDepth 100000 in
set_option maxHeartbeats 4000000 in
theorem sd_M_parameter {l : Launch} {G : mm_G} {h : mm_H} {A : ab_H} {a : Nat} {Q : Int32 → ab_H → Prop} (hV : Vw G h A) (hw : wp_M_parameter a A Q) : mm_S l G M_M_parameter [.ref a] h 0 0 (wQI G Q) := by
  unfold wp_M_parameter at hw
  refine mm_start rfl (Nat.le_of_ble_eq_true rfl) ?_
  show mm_V l G M_M_parameter 0 0 0 [some (va_rf (some a)), none, none, none, none] [] h _
  refine wr_aload_n (some a) (pc' := 1) d_M_parameter_0 rfl rfl rfl ?_
  refine wr_cVI (pc' := 4) (as := []) (st := []) d_M_parameter_1 rfl cs_M_117 rfl (W := fun b Q' => wp_M_targetEnd b  A Q') hV hw (fun b Q' hw => sd_M_targetEnd hV hw) rfl rfl (Nat.le_of_ble_eq_true rfl) (Nat.le_of_ble_eq_true rfl) (fun x6 h A hV hw => ?_)
  refine mm_ist1 (pc' := 5) d_M_parameter_4 rfl (wr_2 _) (Nat.le_of_ble_eq_true rfl) ?_
  refine wr_aload_n (some a) (pc' := 6) d_M_parameter_5 rfl rfl rfl ?_
  refine wr_cVI (pc' := 9) (as := []) (st := []) d_M_parameter_6 rfl cs_M_120 rfl (W := fun b Q' => wp_M_pathEnd b  A Q') hV hw (fun b Q' hw => sd_M_pathEnd hV hw) rfl rfl (Nat.le_of_ble_eq_true rfl) (Nat.le_of_ble_eq_true rfl) (fun x7 h A hV hw => ?_)
  refine mm_iconst (v := 1) (pc' := 10) d_M_parameter_9 rfl (by decide) ?_
  refine mm_iadd (pc' := 11) d_M_parameter_10 rfl ?_
  refine wr_let (P := fun z => mm_V l G M_M_parameter 0 0 11 [some (va_rf (some a)), some (.int x6), none, none, none] (.int z :: []) h _) hw (fun x8 hw => ?_)
  refine mm_ist2 (pc' := 12) d_M_parameter_11 rfl rfl (Nat.le_of_ble_eq_true rfl) ?_
  obtain ⟨n, hw⟩ := hw
  exact mm_drop (mm_le.s (mm_le.s (mm_le.s (mm_le.n (mm_le.n mm_le.e))))) (sq_M_parameter_12  n _ _ _ _ hV hw)
