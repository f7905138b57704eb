theorem dX12_in_0 : decode cX12_in 0 = .ok (.iload_n 0, 1) := by decide +kernel
theorem dX12_in_1 : decode cX12_in 1 = .ok (.iload_n 1, 1) := by decide +kernel
theorem dX12_in_2 : decode cX12_in 2 = .ok (.if_icmp .lt 12, 3) := by decide +kernel
theorem dX12_in_5 : decode cX12_in 5 = .ok (.iload_n 0, 1) := by decide +kernel
theorem dX12_in_6 : decode cX12_in 6 = .ok (.iload_n 2, 1) := by decide +kernel
theorem dX12_in_7 : decode cX12_in 7 = .ok (.if_icmp .gt 7, 3) := by decide +kernel
theorem dX12_in_10 : decode cX12_in 10 = .ok (.iconst 1, 1) := by decide +kernel
theorem dX12_in_11 : decode cX12_in 11 = .ok (.goto 4, 3) := by decide +kernel
theorem dX12_in_14 : decode cX12_in 14 = .ok (.iconst 0, 1) := by decide +kernel
theorem dX12_in_15 : decode cX12_in 15 = .ok (.ireturn, 1) := by decide +kernel
theorem dX12_has_0 : decode cX12_has 0 = .ok (.iload_n 0, 1) := by decide +kernel
theorem dX12_has_1 : decode cX12_has 1 = .ok (.iload_n 1, 1) := by decide +kernel
theorem dX12_has_2 : decode cX12_has 2 = .ok (.ishr, 1) := by decide +kernel
theorem dX12_has_3 : decode cX12_has 3 = .ok (.iconst 1, 1) := by decide +kernel
theorem dX12_has_4 : decode cX12_has 4 = .ok (.iand, 1) := by decide +kernel
theorem dX12_has_5 : decode cX12_has 5 = .ok (.iconst 1, 1) := by decide +kernel
theorem dX12_has_6 : decode cX12_has 6 = .ok (.if_icmp .ne 7, 3) := by decide +kernel
theorem dX12_has_9 : decode cX12_has 9 = .ok (.iconst 1, 1) := by decide +kernel
theorem dX12_has_10 : decode cX12_has 10 = .ok (.goto 4, 3) := by decide +kernel
theorem dX12_has_13 : decode cX12_has 13 = .ok (.iconst 0, 1) := by decide +kernel
theorem dX12_has_14 : decode cX12_has 14 = .ok (.ireturn, 1) := by decide +kernel
theorem dX12_init_0 : decode cX12_init 0 = .ok (.aload_n 0, 1) := by decide +kernel
theorem dX12_init_1 : decode cX12_init 1 = .ok (.invokespecial 3, 3) := by decide +kernel
theorem dX12_init_4 : decode cX12_init 4 = .ok (.aload_n 0, 1) := by decide +kernel
theorem dX12_init_5 : decode cX12_init 5 = .ok (.sipush 160, 3) := by decide +kernel
theorem dX12_init_8 : decode cX12_init 8 = .ok (.newarray .int, 2) := by decide +kernel
theorem dX12_init_10 : decode cX12_init 10 = .ok (.putfield 9, 3) := by decide +kernel
theorem dX12_init_13 : decode cX12_init 13 = .ok (.aload_n 0, 1) := by decide +kernel
theorem dX12_init_14 : decode cX12_init 14 = .ok (.sipush 1700, 3) := by decide +kernel
theorem dX12_init_17 : decode cX12_init 17 = .ok (.newarray .int, 2) := by decide +kernel
theorem dX12_init_19 : decode cX12_init 19 = .ok (.putfield 13, 3) := by decide +kernel
theorem dX12_init_22 : decode cX12_init 22 = .ok (.aload_n 0, 1) := by decide +kernel
theorem dX12_init_23 : decode cX12_init 23 = .ok (.sipush 1700, 3) := by decide +kernel
theorem dX12_init_26 : decode cX12_init 26 = .ok (.newarray .int, 2) := by decide +kernel
theorem dX12_init_28 : decode cX12_init 28 = .ok (.putfield 16, 3) := by decide +kernel
theorem dX12_init_31 : decode cX12_init 31 = .ok (.aload_n 0, 1) := by decide +kernel
theorem dX12_init_32 : decode cX12_init 32 = .ok (.iconst 5, 1) := by decide +kernel
theorem dX12_init_33 : decode cX12_init 33 = .ok (.newarray .int, 2) := by decide +kernel
theorem dX12_init_35 : decode cX12_init 35 = .ok (.putfield 19, 3) := by decide +kernel
theorem dX12_init_38 : decode cX12_init 38 = .ok (.aload_n 0, 1) := by decide +kernel
theorem dX12_init_39 : decode cX12_init 39 = .ok (.iconst 5, 1) := by decide +kernel
theorem dX12_init_40 : decode cX12_init 40 = .ok (.newarray .int, 2) := by decide +kernel
theorem dX12_init_42 : decode cX12_init 42 = .ok (.putfield 22, 3) := by decide +kernel
theorem dX12_init_45 : decode cX12_init 45 = .ok (.aload_n 0, 1) := by decide +kernel
theorem dX12_init_46 : decode cX12_init 46 = .ok (.sipush 450, 3) := by decide +kernel
theorem dX12_init_49 : decode cX12_init 49 = .ok (.newarray .int, 2) := by decide +kernel
theorem dX12_init_51 : decode cX12_init 51 = .ok (.putfield 25, 3) := by decide +kernel
theorem dX12_init_54 : decode cX12_init 54 = .ok (.aload_n 0, 1) := by decide +kernel
theorem dX12_init_55 : decode cX12_init 55 = .ok (.sipush 450, 3) := by decide +kernel
theorem dX12_init_58 : decode cX12_init 58 = .ok (.newarray .int, 2) := by decide +kernel
theorem dX12_init_60 : decode cX12_init 60 = .ok (.putfield 28, 3) := by decide +kernel
theorem dX12_init_63 : decode cX12_init 63 = .ok (.aload_n 0, 1) := by decide +kernel
theorem dX12_init_64 : decode cX12_init 64 = .ok (.sipush 450, 3) := by decide +kernel
theorem dX12_init_67 : decode cX12_init 67 = .ok (.newarray .int, 2) := by decide +kernel
theorem dX12_init_69 : decode cX12_init 69 = .ok (.putfield 31, 3) := by decide +kernel
theorem dX12_init_72 : decode cX12_init 72 = .ok (.aload_n 0, 1) := by decide +kernel
theorem dX12_init_73 : decode cX12_init 73 = .ok (.iconst 5, 1) := by decide +kernel
theorem dX12_init_74 : decode cX12_init 74 = .ok (.newarray .int, 2) := by decide +kernel
theorem dX12_init_76 : decode cX12_init 76 = .ok (.putfield 34, 3) := by decide +kernel
theorem dX12_init_79 : decode cX12_init 79 = .ok (.aload_n 0, 1) := by decide +kernel
theorem dX12_init_80 : decode cX12_init 80 = .ok (.bipush 80, 2) := by decide +kernel
theorem dX12_init_82 : decode cX12_init 82 = .ok (.newarray .int, 2) := by decide +kernel
theorem dX12_init_84 : decode cX12_init 84 = .ok (.putfield 37, 3) := by decide +kernel
theorem dX12_init_87 : decode cX12_init 87 = .ok (.aload_n 0, 1) := by decide +kernel
theorem dX12_init_88 : decode cX12_init 88 = .ok (.bipush 24, 2) := by decide +kernel
theorem dX12_init_90 : decode cX12_init 90 = .ok (.newarray .int, 2) := by decide +kernel
theorem dX12_init_92 : decode cX12_init 92 = .ok (.putfield 40, 3) := by decide +kernel
theorem dX12_init_95 : decode cX12_init 95 = .ok (.aload_n 0, 1) := by decide +kernel
theorem dX12_init_96 : decode cX12_init 96 = .ok (.iconst 2, 1) := by decide +kernel
theorem dX12_init_97 : decode cX12_init 97 = .ok (.newarray .int, 2) := by decide +kernel
theorem dX12_init_99 : decode cX12_init 99 = .ok (.putfield 43, 3) := by decide +kernel
theorem dX12_init_102 : decode cX12_init 102 = .ok (.aload_n 0, 1) := by decide +kernel
theorem dX12_init_103 : decode cX12_init 103 = .ok (.bipush 24, 2) := by decide +kernel
theorem dX12_init_105 : decode cX12_init 105 = .ok (.newarray .int, 2) := by decide +kernel
theorem dX12_init_107 : decode cX12_init 107 = .ok (.putfield 46, 3) := by decide +kernel
theorem dX12_init_110 : decode cX12_init 110 = .ok (.aload_n 0, 1) := by decide +kernel
theorem dX12_init_111 : decode cX12_init 111 = .ok (.iconst 4, 1) := by decide +kernel
theorem dX12_init_112 : decode cX12_init 112 = .ok (.newarray .int, 2) := by decide +kernel
theorem dX12_init_114 : decode cX12_init 114 = .ok (.putfield 49, 3) := by decide +kernel
theorem dX12_init_117 : decode cX12_init 117 = .ok (.aload_n 0, 1) := by decide +kernel
theorem dX12_init_118 : decode cX12_init 118 = .ok (.bipush 16, 2) := by decide +kernel
theorem dX12_init_120 : decode cX12_init 120 = .ok (.newarray .int, 2) := by decide +kernel
theorem dX12_init_122 : decode cX12_init 122 = .ok (.putfield 52, 3) := by decide +kernel
theorem dX12_init_125 : decode cX12_init 125 = .ok (.aload_n 0, 1) := by decide +kernel
theorem dX12_init_126 : decode cX12_init 126 = .ok (.iconst (-1), 1) := by decide +kernel
theorem dX12_init_127 : decode cX12_init 127 = .ok (.putfield 55, 3) := by decide +kernel
theorem dX12_init_130 : decode cX12_init 130 = .ok (.aload_n 0, 1) := by decide +kernel
theorem dX12_init_131 : decode cX12_init 131 = .ok (.iconst 4, 1) := by decide +kernel
theorem dX12_init_132 : decode cX12_init 132 = .ok (.newarray .int, 2) := by decide +kernel
theorem dX12_init_134 : decode cX12_init 134 = .ok (.putfield 59, 3) := by decide +kernel
theorem dX12_init_137 : decode cX12_init 137 = .ok (.aload_n 0, 1) := by decide +kernel
theorem dX12_init_138 : decode cX12_init 138 = .ok (.bipush 96, 2) := by decide +kernel
theorem dX12_init_140 : decode cX12_init 140 = .ok (.newarray .int, 2) := by decide +kernel
theorem dX12_init_142 : decode cX12_init 142 = .ok (.putfield 62, 3) := by decide +kernel
theorem dX12_init_145 : decode cX12_init 145 = .ok (.aload_n 0, 1) := by decide +kernel
theorem dX12_init_146 : decode cX12_init 146 = .ok (.bipush 16, 2) := by decide +kernel
theorem dX12_init_148 : decode cX12_init 148 = .ok (.newarray .int, 2) := by decide +kernel
theorem dX12_init_150 : decode cX12_init 150 = .ok (.putfield 65, 3) := by decide +kernel
theorem dX12_init_153 : decode cX12_init 153 = .ok (.aload_n 0, 1) := by decide +kernel
theorem dX12_init_154 : decode cX12_init 154 = .ok (.bipush 16, 2) := by decide +kernel
theorem dX12_init_156 : decode cX12_init 156 = .ok (.newarray .int, 2) := by decide +kernel
theorem dX12_init_158 : decode cX12_init 158 = .ok (.putfield 68, 3) := by decide +kernel
theorem dX12_init_161 : decode cX12_init 161 = .ok (.aload_n 0, 1) := by decide +kernel
theorem dX12_init_162 : decode cX12_init 162 = .ok (.iconst 4, 1) := by decide +kernel
theorem dX12_init_163 : decode cX12_init 163 = .ok (.newarray .int, 2) := by decide +kernel
theorem dX12_init_165 : decode cX12_init 165 = .ok (.putfield 71, 3) := by decide +kernel
theorem dX12_init_168 : decode cX12_init 168 = .ok (.aload_n 0, 1) := by decide +kernel
theorem dX12_init_169 : decode cX12_init 169 = .ok (.sipush 256, 3) := by decide +kernel
theorem dX12_init_172 : decode cX12_init 172 = .ok (.newarray .int, 2) := by decide +kernel
theorem dX12_init_174 : decode cX12_init 174 = .ok (.putfield 74, 3) := by decide +kernel
theorem dX12_init_177 : decode cX12_init 177 = .ok (.aload_n 0, 1) := by decide +kernel
theorem dX12_init_178 : decode cX12_init 178 = .ok (.iconst 4, 1) := by decide +kernel
theorem dX12_init_179 : decode cX12_init 179 = .ok (.newarray .int, 2) := by decide +kernel
theorem dX12_init_181 : decode cX12_init 181 = .ok (.dup, 1) := by decide +kernel
theorem dX12_init_182 : decode cX12_init 182 = .ok (.iconst 0, 1) := by decide +kernel
theorem dX12_init_183 : decode cX12_init 183 = .ok (.iconst (-1), 1) := by decide +kernel
theorem dX12_init_184 : decode cX12_init 184 = .ok (.iastore, 1) := by decide +kernel
theorem dX12_init_185 : decode cX12_init 185 = .ok (.dup, 1) := by decide +kernel
theorem dX12_init_186 : decode cX12_init 186 = .ok (.iconst 1, 1) := by decide +kernel
theorem dX12_init_187 : decode cX12_init 187 = .ok (.iconst (-1), 1) := by decide +kernel
theorem dX12_init_188 : decode cX12_init 188 = .ok (.iastore, 1) := by decide +kernel
theorem dX12_init_189 : decode cX12_init 189 = .ok (.dup, 1) := by decide +kernel
theorem dX12_init_190 : decode cX12_init 190 = .ok (.iconst 2, 1) := by decide +kernel
theorem dX12_init_191 : decode cX12_init 191 = .ok (.iconst (-1), 1) := by decide +kernel
theorem dX12_init_192 : decode cX12_init 192 = .ok (.iastore, 1) := by decide +kernel
theorem dX12_init_193 : decode cX12_init 193 = .ok (.dup, 1) := by decide +kernel
theorem dX12_init_194 : decode cX12_init 194 = .ok (.iconst 3, 1) := by decide +kernel
theorem dX12_init_195 : decode cX12_init 195 = .ok (.iconst (-1), 1) := by decide +kernel
theorem dX12_init_196 : decode cX12_init 196 = .ok (.iastore, 1) := by decide +kernel
theorem dX12_init_197 : decode cX12_init 197 = .ok (.putfield 77, 3) := by decide +kernel
theorem dX12_init_200 : decode cX12_init 200 = .ok (.aload_n 0, 1) := by decide +kernel
theorem dX12_init_201 : decode cX12_init 201 = .ok (.bipush 64, 2) := by decide +kernel
theorem dX12_init_203 : decode cX12_init 203 = .ok (.newarray .int, 2) := by decide +kernel
theorem dX12_init_205 : decode cX12_init 205 = .ok (.putfield 80, 3) := by decide +kernel
theorem dX12_init_208 : decode cX12_init 208 = .ok (.aload_n 0, 1) := by decide +kernel
theorem dX12_init_209 : decode cX12_init 209 = .ok (.iconst 4, 1) := by decide +kernel
theorem dX12_init_210 : decode cX12_init 210 = .ok (.newarray .boolean, 2) := by decide +kernel
theorem dX12_init_212 : decode cX12_init 212 = .ok (.putfield 83, 3) := by decide +kernel
theorem dX12_init_215 : decode cX12_init 215 = .ok (.aload_n 0, 1) := by decide +kernel
theorem dX12_init_216 : decode cX12_init 216 = .ok (.iconst 4, 1) := by decide +kernel
theorem dX12_init_217 : decode cX12_init 217 = .ok (.newarray .int, 2) := by decide +kernel
theorem dX12_init_219 : decode cX12_init 219 = .ok (.putfield 87, 3) := by decide +kernel
theorem dX12_init_222 : decode cX12_init 222 = .ok (.aload_n 0, 1) := by decide +kernel
theorem dX12_init_223 : decode cX12_init 223 = .ok (.bipush 96, 2) := by decide +kernel
theorem dX12_init_225 : decode cX12_init 225 = .ok (.newarray .int, 2) := by decide +kernel
theorem dX12_init_227 : decode cX12_init 227 = .ok (.putfield 90, 3) := by decide +kernel
theorem dX12_init_230 : decode cX12_init 230 = .ok (.aload_n 0, 1) := by decide +kernel
theorem dX12_init_231 : decode cX12_init 231 = .ok (.sipush 192, 3) := by decide +kernel
theorem dX12_init_234 : decode cX12_init 234 = .ok (.newarray .long, 2) := by decide +kernel
theorem dX12_init_236 : decode cX12_init 236 = .ok (.putfield 93, 3) := by decide +kernel
theorem dX12_init_239 : decode cX12_init 239 = .ok (.aload_n 0, 1) := by decide +kernel
theorem dX12_init_240 : decode cX12_init 240 = .ok (.iconst 4, 1) := by decide +kernel
theorem dX12_init_241 : decode cX12_init 241 = .ok (.newarray .int, 2) := by decide +kernel
theorem dX12_init_243 : decode cX12_init 243 = .ok (.putfield 97, 3) := by decide +kernel
theorem dX12_init_246 : decode cX12_init 246 = .ok (.aload_n 0, 1) := by decide +kernel
theorem dX12_init_247 : decode cX12_init 247 = .ok (.iconst 4, 1) := by decide +kernel
theorem dX12_init_248 : decode cX12_init 248 = .ok (.newarray .int, 2) := by decide +kernel
theorem dX12_init_250 : decode cX12_init 250 = .ok (.putfield 100, 3) := by decide +kernel
theorem dX12_init_253 : decode cX12_init 253 = .ok (.aload_n 0, 1) := by decide +kernel
theorem dX12_init_254 : decode cX12_init 254 = .ok (.iconst 4, 1) := by decide +kernel
theorem dX12_init_255 : decode cX12_init 255 = .ok (.newarray .int, 2) := by decide +kernel
theorem dX12_init_257 : decode cX12_init 257 = .ok (.putfield 103, 3) := by decide +kernel
theorem dX12_init_260 : decode cX12_init 260 = .ok (.aload_n 0, 1) := by decide +kernel
theorem dX12_init_261 : decode cX12_init 261 = .ok (.iconst 4, 1) := by decide +kernel
theorem dX12_init_262 : decode cX12_init 262 = .ok (.newarray .int, 2) := by decide +kernel
theorem dX12_init_264 : decode cX12_init 264 = .ok (.putfield 106, 3) := by decide +kernel
theorem dX12_init_267 : decode cX12_init 267 = .ok (.aload_n 0, 1) := by decide +kernel
theorem dX12_init_268 : decode cX12_init 268 = .ok (.iconst 4, 1) := by decide +kernel
theorem dX12_init_269 : decode cX12_init 269 = .ok (.newarray .int, 2) := by decide +kernel
theorem dX12_init_271 : decode cX12_init 271 = .ok (.putfield 109, 3) := by decide +kernel
theorem dX12_init_274 : decode cX12_init 274 = .ok (.aload_n 0, 1) := by decide +kernel
theorem dX12_init_275 : decode cX12_init 275 = .ok (.bipush 20, 2) := by decide +kernel
theorem dX12_init_277 : decode cX12_init 277 = .ok (.newarray .int, 2) := by decide +kernel
theorem dX12_init_279 : decode cX12_init 279 = .ok (.putfield 112, 3) := by decide +kernel
theorem dX12_init_282 : decode cX12_init 282 = .ok (.aload_n 0, 1) := by decide +kernel
theorem dX12_init_283 : decode cX12_init 283 = .ok (.bipush 20, 2) := by decide +kernel
theorem dX12_init_285 : decode cX12_init 285 = .ok (.newarray .int, 2) := by decide +kernel
theorem dX12_init_287 : decode cX12_init 287 = .ok (.putfield 115, 3) := by decide +kernel
theorem dX12_init_290 : decode cX12_init 290 = .ok (.aload_n 0, 1) := by decide +kernel
theorem dX12_init_291 : decode cX12_init 291 = .ok (.bipush 40, 2) := by decide +kernel
theorem dX12_init_293 : decode cX12_init 293 = .ok (.newarray .int, 2) := by decide +kernel
theorem dX12_init_295 : decode cX12_init 295 = .ok (.putfield 118, 3) := by decide +kernel
theorem dX12_init_298 : decode cX12_init 298 = .ok (.aload_n 0, 1) := by decide +kernel
theorem dX12_init_299 : decode cX12_init 299 = .ok (.bipush 40, 2) := by decide +kernel
theorem dX12_init_301 : decode cX12_init 301 = .ok (.newarray .int, 2) := by decide +kernel
theorem dX12_init_303 : decode cX12_init 303 = .ok (.putfield 121, 3) := by decide +kernel
theorem dX12_init_306 : decode cX12_init 306 = .ok (.aload_n 0, 1) := by decide +kernel
theorem dX12_init_307 : decode cX12_init 307 = .ok (.bipush 40, 2) := by decide +kernel
theorem dX12_init_309 : decode cX12_init 309 = .ok (.newarray .int, 2) := by decide +kernel
theorem dX12_init_311 : decode cX12_init 311 = .ok (.putfield 124, 3) := by decide +kernel
theorem dX12_init_314 : decode cX12_init 314 = .ok (.aload_n 0, 1) := by decide +kernel
theorem dX12_init_315 : decode cX12_init 315 = .ok (.bipush 40, 2) := by decide +kernel
theorem dX12_init_317 : decode cX12_init 317 = .ok (.newarray .long, 2) := by decide +kernel
theorem dX12_init_319 : decode cX12_init 319 = .ok (.putfield 127, 3) := by decide +kernel
theorem dX12_init_322 : decode cX12_init 322 = .ok (.aload_n 0, 1) := by decide +kernel
theorem dX12_init_323 : decode cX12_init 323 = .ok (.sipush 640, 3) := by decide +kernel
theorem dX12_init_326 : decode cX12_init 326 = .ok (.newarray .int, 2) := by decide +kernel
theorem dX12_init_328 : decode cX12_init 328 = .ok (.putfield 130, 3) := by decide +kernel
theorem dX12_init_331 : decode cX12_init 331 = .ok (.aload_n 0, 1) := by decide +kernel
theorem dX12_init_332 : decode cX12_init 332 = .ok (.bipush 40, 2) := by decide +kernel
theorem dX12_init_334 : decode cX12_init 334 = .ok (.newarray .int, 2) := by decide +kernel
theorem dX12_init_336 : decode cX12_init 336 = .ok (.putfield 133, 3) := by decide +kernel
theorem dX12_init_339 : decode cX12_init 339 = .ok (.aload_n 0, 1) := by decide +kernel
theorem dX12_init_340 : decode cX12_init 340 = .ok (.iconst 4, 1) := by decide +kernel
theorem dX12_init_341 : decode cX12_init 341 = .ok (.newarray .int, 2) := by decide +kernel
theorem dX12_init_343 : decode cX12_init 343 = .ok (.putfield 136, 3) := by decide +kernel
theorem dX12_init_346 : decode cX12_init 346 = .ok (.aload_n 0, 1) := by decide +kernel
theorem dX12_init_347 : decode cX12_init 347 = .ok (.bipush 16, 2) := by decide +kernel
theorem dX12_init_349 : decode cX12_init 349 = .ok (.newarray .int, 2) := by decide +kernel
theorem dX12_init_351 : decode cX12_init 351 = .ok (.putfield 139, 3) := by decide +kernel
theorem dX12_init_354 : decode cX12_init 354 = .ok (.aload_n 0, 1) := by decide +kernel
theorem dX12_init_355 : decode cX12_init 355 = .ok (.bipush 120, 2) := by decide +kernel
theorem dX12_init_357 : decode cX12_init 357 = .ok (.newarray .int, 2) := by decide +kernel
theorem dX12_init_359 : decode cX12_init 359 = .ok (.putfield 142, 3) := by decide +kernel
theorem dX12_init_362 : decode cX12_init 362 = .ok (.aload_n 0, 1) := by decide +kernel
theorem dX12_init_363 : decode cX12_init 363 = .ok (.sipush 640, 3) := by decide +kernel
theorem dX12_init_366 : decode cX12_init 366 = .ok (.newarray .int, 2) := by decide +kernel
theorem dX12_init_368 : decode cX12_init 368 = .ok (.putfield 145, 3) := by decide +kernel
theorem dX12_init_371 : decode cX12_init 371 = .ok (.aload_n 0, 1) := by decide +kernel
theorem dX12_init_372 : decode cX12_init 372 = .ok (.bipush 40, 2) := by decide +kernel
theorem dX12_init_374 : decode cX12_init 374 = .ok (.newarray .long, 2) := by decide +kernel
theorem dX12_init_376 : decode cX12_init 376 = .ok (.putfield 148, 3) := by decide +kernel
theorem dX12_init_379 : decode cX12_init 379 = .ok (.aload_n 0, 1) := by decide +kernel
theorem dX12_init_380 : decode cX12_init 380 = .ok (.bipush 40, 2) := by decide +kernel
theorem dX12_init_382 : decode cX12_init 382 = .ok (.newarray .int, 2) := by decide +kernel
theorem dX12_init_384 : decode cX12_init 384 = .ok (.putfield 151, 3) := by decide +kernel
theorem dX12_init_387 : decode cX12_init 387 = .ok (.return_, 1) := by decide +kernel
theorem dX12_thrown_0 : decode cX12_thrown 0 = .ok (.aload_n 0, 1) := by decide +kernel
theorem dX12_thrown_1 : decode cX12_thrown 1 = .ok (.getfield 154, 3) := by decide +kernel
theorem dX12_thrown_4 : decode cX12_thrown 4 = .ok (.ireturn, 1) := by decide +kernel
theorem dX12_byteOf_0 : decode cX12_byteOf 0 = .ok (.iload 5, 2) := by decide +kernel
theorem dX12_byteOf_2 : decode cX12_byteOf 2 = .ok (.iconst 4, 1) := by decide +kernel
theorem dX12_byteOf_3 : decode cX12_byteOf 3 = .ok (.if_icmp .ge 7, 3) := by decide +kernel
theorem dX12_byteOf_6 : decode cX12_byteOf 6 = .ok (.iload_n 0, 1) := by decide +kernel
theorem dX12_byteOf_7 : decode cX12_byteOf 7 = .ok (.goto 38, 3) := by decide +kernel
theorem dX12_byteOf_10 : decode cX12_byteOf 10 = .ok (.iload 5, 2) := by decide +kernel
theorem dX12_byteOf_12 : decode cX12_byteOf 12 = .ok (.bipush 8, 2) := by decide +kernel
theorem dX12_byteOf_14 : decode cX12_byteOf 14 = .ok (.if_icmp .ge 7, 3) := by decide +kernel
theorem dX12_byteOf_17 : decode cX12_byteOf 17 = .ok (.iload_n 1, 1) := by decide +kernel
theorem dX12_byteOf_18 : decode cX12_byteOf 18 = .ok (.goto 27, 3) := by decide +kernel
theorem dX12_byteOf_21 : decode cX12_byteOf 21 = .ok (.iload 5, 2) := by decide +kernel
theorem dX12_byteOf_23 : decode cX12_byteOf 23 = .ok (.bipush 12, 2) := by decide +kernel
theorem dX12_byteOf_25 : decode cX12_byteOf 25 = .ok (.if_icmp .ge 7, 3) := by decide +kernel
theorem dX12_byteOf_28 : decode cX12_byteOf 28 = .ok (.iload_n 2, 1) := by decide +kernel
theorem dX12_byteOf_29 : decode cX12_byteOf 29 = .ok (.goto 16, 3) := by decide +kernel
theorem dX12_byteOf_32 : decode cX12_byteOf 32 = .ok (.iload 5, 2) := by decide +kernel
theorem dX12_byteOf_34 : decode cX12_byteOf 34 = .ok (.bipush 16, 2) := by decide +kernel
theorem dX12_byteOf_36 : decode cX12_byteOf 36 = .ok (.if_icmp .ge 7, 3) := by decide +kernel
theorem dX12_byteOf_39 : decode cX12_byteOf 39 = .ok (.iload_n 3, 1) := by decide +kernel
theorem dX12_byteOf_40 : decode cX12_byteOf 40 = .ok (.goto 5, 3) := by decide +kernel
theorem dX12_byteOf_43 : decode cX12_byteOf 43 = .ok (.iload 4, 2) := by decide +kernel
theorem dX12_byteOf_45 : decode cX12_byteOf 45 = .ok (.istore 6, 2) := by decide +kernel
theorem dX12_byteOf_47 : decode cX12_byteOf 47 = .ok (.iload 6, 2) := by decide +kernel
theorem dX12_byteOf_49 : decode cX12_byteOf 49 = .ok (.bipush 24, 2) := by decide +kernel
theorem dX12_byteOf_51 : decode cX12_byteOf 51 = .ok (.bipush 8, 2) := by decide +kernel
theorem dX12_byteOf_53 : decode cX12_byteOf 53 = .ok (.iload 5, 2) := by decide +kernel
theorem dX12_byteOf_55 : decode cX12_byteOf 55 = .ok (.iconst 4, 1) := by decide +kernel
theorem dX12_byteOf_56 : decode cX12_byteOf 56 = .ok (.irem, 1) := by decide +kernel
theorem dX12_byteOf_57 : decode cX12_byteOf 57 = .ok (.imul, 1) := by decide +kernel
theorem dX12_byteOf_58 : decode cX12_byteOf 58 = .ok (.isub, 1) := by decide +kernel
theorem dX12_byteOf_59 : decode cX12_byteOf 59 = .ok (.ishr, 1) := by decide +kernel
theorem dX12_byteOf_60 : decode cX12_byteOf 60 = .ok (.sipush 255, 3) := by decide +kernel
theorem dX12_byteOf_63 : decode cX12_byteOf 63 = .ok (.iand, 1) := by decide +kernel
theorem dX12_byteOf_64 : decode cX12_byteOf 64 = .ok (.ireturn, 1) := by decide +kernel
theorem dX12_feed_0 : decode cX12_feed 0 = .ok (.iconst 0, 1) := by decide +kernel
theorem dX12_feed_1 : decode cX12_feed 1 = .ok (.istore 6, 2) := by decide +kernel
theorem dX12_feed_3 : decode cX12_feed 3 = .ok (.iconst 0, 1) := by decide +kernel
theorem dX12_feed_4 : decode cX12_feed 4 = .ok (.istore 7, 2) := by decide +kernel
theorem dX12_feed_6 : decode cX12_feed 6 = .ok (.iload 7, 2) := by decide +kernel
theorem dX12_feed_8 : decode cX12_feed 8 = .ok (.bipush 20, 2) := by decide +kernel
theorem dX12_feed_10 : decode cX12_feed 10 = .ok (.if_icmp .ge 34, 3) := by decide +kernel
theorem dX12_feed_13 : decode cX12_feed 13 = .ok (.iload 6, 2) := by decide +kernel
theorem dX12_feed_15 : decode cX12_feed 15 = .ok (.iload_n 1, 1) := by decide +kernel
theorem dX12_feed_16 : decode cX12_feed 16 = .ok (.iload_n 2, 1) := by decide +kernel
theorem dX12_feed_17 : decode cX12_feed 17 = .ok (.iload_n 3, 1) := by decide +kernel
theorem dX12_feed_18 : decode cX12_feed 18 = .ok (.iload 4, 2) := by decide +kernel
theorem dX12_feed_20 : decode cX12_feed 20 = .ok (.iload 5, 2) := by decide +kernel
theorem dX12_feed_22 : decode cX12_feed 22 = .ok (.iload 7, 2) := by decide +kernel
theorem dX12_feed_24 : decode cX12_feed 24 = .ok (.invokestatic 157, 3) := by decide +kernel
theorem dX12_feed_27 : decode cX12_feed 27 = .ok (.ifCond .eq 7, 3) := by decide +kernel
theorem dX12_feed_30 : decode cX12_feed 30 = .ok (.iconst 1, 1) := by decide +kernel
theorem dX12_feed_31 : decode cX12_feed 31 = .ok (.goto 4, 3) := by decide +kernel
theorem dX12_feed_34 : decode cX12_feed 34 = .ok (.iconst 0, 1) := by decide +kernel
theorem dX12_feed_35 : decode cX12_feed 35 = .ok (.iadd, 1) := by decide +kernel
theorem dX12_feed_36 : decode cX12_feed 36 = .ok (.istore 6, 2) := by decide +kernel
theorem dX12_feed_38 : decode cX12_feed 38 = .ok (.iinc 7 1, 3) := by decide +kernel
theorem dX12_feed_41 : decode cX12_feed 41 = .ok (.goto (-35), 3) := by decide +kernel
theorem dX12_feed_44 : decode cX12_feed 44 = .ok (.aload_n 0, 1) := by decide +kernel
theorem dX12_feed_45 : decode cX12_feed 45 = .ok (.getfield 161, 3) := by decide +kernel
theorem dX12_feed_48 : decode cX12_feed 48 = .ok (.iload 6, 2) := by decide +kernel
theorem dX12_feed_50 : decode cX12_feed 50 = .ok (.iadd, 1) := by decide +kernel
theorem dX12_feed_51 : decode cX12_feed 51 = .ok (.sipush 160, 3) := by decide +kernel
theorem dX12_feed_54 : decode cX12_feed 54 = .ok (.if_icmp .le 5, 3) := by decide +kernel
theorem dX12_feed_57 : decode cX12_feed 57 = .ok (.iconst (-1), 1) := by decide +kernel
theorem dX12_feed_58 : decode cX12_feed 58 = .ok (.ireturn, 1) := by decide +kernel
theorem dX12_feed_59 : decode cX12_feed 59 = .ok (.iconst 0, 1) := by decide +kernel
theorem dX12_feed_60 : decode cX12_feed 60 = .ok (.istore 7, 2) := by decide +kernel
theorem dX12_feed_62 : decode cX12_feed 62 = .ok (.iload 7, 2) := by decide +kernel
theorem dX12_feed_64 : decode cX12_feed 64 = .ok (.bipush 20, 2) := by decide +kernel
theorem dX12_feed_66 : decode cX12_feed 66 = .ok (.if_icmp .ge 49, 3) := by decide +kernel
theorem dX12_feed_69 : decode cX12_feed 69 = .ok (.iload_n 1, 1) := by decide +kernel
theorem dX12_feed_70 : decode cX12_feed 70 = .ok (.iload_n 2, 1) := by decide +kernel
theorem dX12_feed_71 : decode cX12_feed 71 = .ok (.iload_n 3, 1) := by decide +kernel
theorem dX12_feed_72 : decode cX12_feed 72 = .ok (.iload 4, 2) := by decide +kernel
theorem dX12_feed_74 : decode cX12_feed 74 = .ok (.iload 5, 2) := by decide +kernel
theorem dX12_feed_76 : decode cX12_feed 76 = .ok (.iload 7, 2) := by decide +kernel
theorem dX12_feed_78 : decode cX12_feed 78 = .ok (.invokestatic 157, 3) := by decide +kernel
theorem dX12_feed_81 : decode cX12_feed 81 = .ok (.istore 8, 2) := by decide +kernel
theorem dX12_feed_83 : decode cX12_feed 83 = .ok (.iload 8, 2) := by decide +kernel
theorem dX12_feed_85 : decode cX12_feed 85 = .ok (.ifCond .eq 24, 3) := by decide +kernel
theorem dX12_feed_88 : decode cX12_feed 88 = .ok (.aload_n 0, 1) := by decide +kernel
theorem dX12_feed_89 : decode cX12_feed 89 = .ok (.getfield 9, 3) := by decide +kernel
theorem dX12_feed_92 : decode cX12_feed 92 = .ok (.aload_n 0, 1) := by decide +kernel
theorem dX12_feed_93 : decode cX12_feed 93 = .ok (.getfield 161, 3) := by decide +kernel
theorem dX12_feed_96 : decode cX12_feed 96 = .ok (.iload 8, 2) := by decide +kernel
theorem dX12_feed_98 : decode cX12_feed 98 = .ok (.iastore, 1) := by decide +kernel
theorem dX12_feed_99 : decode cX12_feed 99 = .ok (.aload_n 0, 1) := by decide +kernel
theorem dX12_feed_100 : decode cX12_feed 100 = .ok (.dup, 1) := by decide +kernel
theorem dX12_feed_101 : decode cX12_feed 101 = .ok (.getfield 161, 3) := by decide +kernel
theorem dX12_feed_104 : decode cX12_feed 104 = .ok (.iconst 1, 1) := by decide +kernel
theorem dX12_feed_105 : decode cX12_feed 105 = .ok (.iadd, 1) := by decide +kernel
theorem dX12_feed_106 : decode cX12_feed 106 = .ok (.putfield 161, 3) := by decide +kernel
theorem dX12_feed_109 : decode cX12_feed 109 = .ok (.iinc 7 1, 3) := by decide +kernel
theorem dX12_feed_112 : decode cX12_feed 112 = .ok (.goto (-50), 3) := by decide +kernel
theorem dX12_feed_115 : decode cX12_feed 115 = .ok (.aload_n 0, 1) := by decide +kernel
theorem dX12_feed_116 : decode cX12_feed 116 = .ok (.getfield 161, 3) := by decide +kernel
theorem dX12_feed_119 : decode cX12_feed 119 = .ok (.ireturn, 1) := by decide +kernel
theorem dX12_end_0 : decode cX12_end 0 = .ok (.iload_n 1, 1) := by decide +kernel
theorem dX12_end_1 : decode cX12_end 1 = .ok (.ifCond .lt 11, 3) := by decide +kernel
theorem dX12_end_4 : decode cX12_end 4 = .ok (.iload_n 1, 1) := by decide +kernel
theorem dX12_end_5 : decode cX12_end 5 = .ok (.aload_n 0, 1) := by decide +kernel
theorem dX12_end_6 : decode cX12_end 6 = .ok (.getfield 161, 3) := by decide +kernel
theorem dX12_end_9 : decode cX12_end 9 = .ok (.if_icmp .le 5, 3) := by decide +kernel
theorem dX12_end_12 : decode cX12_end 12 = .ok (.iconst 0, 1) := by decide +kernel
theorem dX12_end_13 : decode cX12_end 13 = .ok (.ireturn, 1) := by decide +kernel
theorem dX12_end_14 : decode cX12_end 14 = .ok (.aload_n 0, 1) := by decide +kernel
theorem dX12_end_15 : decode cX12_end 15 = .ok (.iload_n 1, 1) := by decide +kernel
theorem dX12_end_16 : decode cX12_end 16 = .ok (.putfield 161, 3) := by decide +kernel
theorem dX12_end_19 : decode cX12_end 19 = .ok (.iconst 1, 1) := by decide +kernel
theorem dX12_end_20 : decode cX12_end 20 = .ok (.ireturn, 1) := by decide +kernel
theorem dX12_here_0 : decode cX12_here 0 = .ok (.aload_n 0, 1) := by decide +kernel
theorem dX12_here_1 : decode cX12_here 1 = .ok (.getfield 164, 3) := by decide +kernel
theorem dX12_here_4 : decode cX12_here 4 = .ok (.aload_n 0, 1) := by decide +kernel
theorem dX12_here_5 : decode cX12_here 5 = .ok (.getfield 161, 3) := by decide +kernel
theorem dX12_here_8 : decode cX12_here 8 = .ok (.if_icmp .ge 15, 3) := by decide +kernel
theorem dX12_here_11 : decode cX12_here 11 = .ok (.aload_n 0, 1) := by decide +kernel
theorem dX12_here_12 : decode cX12_here 12 = .ok (.getfield 9, 3) := by decide +kernel
theorem dX12_here_15 : decode cX12_here 15 = .ok (.aload_n 0, 1) := by decide +kernel
theorem dX12_here_16 : decode cX12_here 16 = .ok (.getfield 164, 3) := by decide +kernel
theorem dX12_here_19 : decode cX12_here 19 = .ok (.iaload, 1) := by decide +kernel
theorem dX12_here_20 : decode cX12_here 20 = .ok (.goto 4, 3) := by decide +kernel
theorem dX12_here_23 : decode cX12_here 23 = .ok (.iconst (-1), 1) := by decide +kernel
theorem dX12_here_24 : decode cX12_here 24 = .ok (.ireturn, 1) := by decide +kernel
theorem dX12_look_0 : decode cX12_look 0 = .ok (.aload_n 0, 1) := by decide +kernel
theorem dX12_look_1 : decode cX12_look 1 = .ok (.invokevirtual 167, 3) := by decide +kernel
theorem dX12_look_4 : decode cX12_look 4 = .ok (.bipush 32, 2) := by decide +kernel
theorem dX12_look_6 : decode cX12_look 6 = .ok (.if_icmp .ne 16, 3) := by decide +kernel
theorem dX12_look_9 : decode cX12_look 9 = .ok (.aload_n 0, 1) := by decide +kernel
theorem dX12_look_10 : decode cX12_look 10 = .ok (.dup, 1) := by decide +kernel
theorem dX12_look_11 : decode cX12_look 11 = .ok (.getfield 164, 3) := by decide +kernel
theorem dX12_look_14 : decode cX12_look 14 = .ok (.iconst 1, 1) := by decide +kernel
theorem dX12_look_15 : decode cX12_look 15 = .ok (.iadd, 1) := by decide +kernel
theorem dX12_look_16 : decode cX12_look 16 = .ok (.putfield 164, 3) := by decide +kernel
theorem dX12_look_19 : decode cX12_look 19 = .ok (.goto (-19), 3) := by decide +kernel
theorem dX12_look_22 : decode cX12_look 22 = .ok (.aload_n 0, 1) := by decide +kernel
theorem dX12_look_23 : decode cX12_look 23 = .ok (.invokevirtual 167, 3) := by decide +kernel
theorem dX12_look_26 : decode cX12_look 26 = .ok (.ireturn, 1) := by decide +kernel
theorem dX12_bad_0 : decode cX12_bad 0 = .ok (.aload_n 0, 1) := by decide +kernel
theorem dX12_bad_1 : decode cX12_bad 1 = .ok (.aload_n 0, 1) := by decide +kernel
theorem dX12_bad_2 : decode cX12_bad 2 = .ok (.getfield 171, 3) := by decide +kernel
theorem dX12_bad_5 : decode cX12_bad 5 = .ok (.iconst (-1), 1) := by decide +kernel
theorem dX12_bad_6 : decode cX12_bad 6 = .ok (.if_icmp .ne 10, 3) := by decide +kernel
theorem dX12_bad_9 : decode cX12_bad 9 = .ok (.aload_n 0, 1) := by decide +kernel
theorem dX12_bad_10 : decode cX12_bad 10 = .ok (.getfield 164, 3) := by decide +kernel
theorem dX12_bad_13 : decode cX12_bad 13 = .ok (.goto 7, 3) := by decide +kernel
theorem dX12_bad_16 : decode cX12_bad 16 = .ok (.aload_n 0, 1) := by decide +kernel
theorem dX12_bad_17 : decode cX12_bad 17 = .ok (.getfield 171, 3) := by decide +kernel
theorem dX12_bad_20 : decode cX12_bad 20 = .ok (.putfield 171, 3) := by decide +kernel
theorem dX12_bad_23 : decode cX12_bad 23 = .ok (.return_, 1) := by decide +kernel
theorem dX12_isDigit_0 : decode cX12_isDigit 0 = .ok (.iload_n 0, 1) := by decide +kernel
theorem dX12_isDigit_1 : decode cX12_isDigit 1 = .ok (.bipush 48, 2) := by decide +kernel
theorem dX12_isDigit_3 : decode cX12_isDigit 3 = .ok (.if_icmp .lt 13, 3) := by decide +kernel
theorem dX12_isDigit_6 : decode cX12_isDigit 6 = .ok (.iload_n 0, 1) := by decide +kernel
theorem dX12_isDigit_7 : decode cX12_isDigit 7 = .ok (.bipush 57, 2) := by decide +kernel
theorem dX12_isDigit_9 : decode cX12_isDigit 9 = .ok (.if_icmp .gt 7, 3) := by decide +kernel
theorem dX12_isDigit_12 : decode cX12_isDigit 12 = .ok (.iconst 1, 1) := by decide +kernel
theorem dX12_isDigit_13 : decode cX12_isDigit 13 = .ok (.goto 4, 3) := by decide +kernel
theorem dX12_isDigit_16 : decode cX12_isDigit 16 = .ok (.iconst 0, 1) := by decide +kernel
theorem dX12_isDigit_17 : decode cX12_isDigit 17 = .ok (.ireturn, 1) := by decide +kernel
theorem dX12_put_0 : decode cX12_put 0 = .ok (.aload_n 0, 1) := by decide +kernel
theorem dX12_put_1 : decode cX12_put 1 = .ok (.getfield 13, 3) := by decide +kernel
theorem dX12_put_4 : decode cX12_put 4 = .ok (.sipush 340, 3) := by decide +kernel
theorem dX12_put_7 : decode cX12_put 7 = .ok (.aload_n 0, 1) := by decide +kernel
theorem dX12_put_8 : decode cX12_put 8 = .ok (.getfield 174, 3) := by decide +kernel
theorem dX12_put_11 : decode cX12_put 11 = .ok (.imul, 1) := by decide +kernel
theorem dX12_put_12 : decode cX12_put 12 = .ok (.aload_n 0, 1) := by decide +kernel
theorem dX12_put_13 : decode cX12_put 13 = .ok (.getfield 19, 3) := by decide +kernel
theorem dX12_put_16 : decode cX12_put 16 = .ok (.aload_n 0, 1) := by decide +kernel
theorem dX12_put_17 : decode cX12_put 17 = .ok (.getfield 174, 3) := by decide +kernel
theorem dX12_put_20 : decode cX12_put 20 = .ok (.iaload, 1) := by decide +kernel
theorem dX12_put_21 : decode cX12_put 21 = .ok (.iadd, 1) := by decide +kernel
theorem dX12_put_22 : decode cX12_put 22 = .ok (.iload_n 1, 1) := by decide +kernel
theorem dX12_put_23 : decode cX12_put 23 = .ok (.iastore, 1) := by decide +kernel
theorem dX12_put_24 : decode cX12_put 24 = .ok (.aload_n 0, 1) := by decide +kernel
theorem dX12_put_25 : decode cX12_put 25 = .ok (.getfield 16, 3) := by decide +kernel
theorem dX12_put_28 : decode cX12_put 28 = .ok (.sipush 340, 3) := by decide +kernel
theorem dX12_put_31 : decode cX12_put 31 = .ok (.aload_n 0, 1) := by decide +kernel
theorem dX12_put_32 : decode cX12_put 32 = .ok (.getfield 174, 3) := by decide +kernel
theorem dX12_put_35 : decode cX12_put 35 = .ok (.imul, 1) := by decide +kernel
theorem dX12_put_36 : decode cX12_put 36 = .ok (.aload_n 0, 1) := by decide +kernel
theorem dX12_put_37 : decode cX12_put 37 = .ok (.getfield 19, 3) := by decide +kernel
theorem dX12_put_40 : decode cX12_put 40 = .ok (.aload_n 0, 1) := by decide +kernel
theorem dX12_put_41 : decode cX12_put 41 = .ok (.getfield 174, 3) := by decide +kernel
theorem dX12_put_44 : decode cX12_put 44 = .ok (.iaload, 1) := by decide +kernel
theorem dX12_put_45 : decode cX12_put 45 = .ok (.iadd, 1) := by decide +kernel
theorem dX12_put_46 : decode cX12_put 46 = .ok (.iload_n 2, 1) := by decide +kernel
theorem dX12_put_47 : decode cX12_put 47 = .ok (.iastore, 1) := by decide +kernel
theorem dX12_put_48 : decode cX12_put 48 = .ok (.aload_n 0, 1) := by decide +kernel
theorem dX12_put_49 : decode cX12_put 49 = .ok (.getfield 19, 3) := by decide +kernel
theorem dX12_put_52 : decode cX12_put 52 = .ok (.aload_n 0, 1) := by decide +kernel
theorem dX12_put_53 : decode cX12_put 53 = .ok (.getfield 174, 3) := by decide +kernel
theorem dX12_put_56 : decode cX12_put 56 = .ok (.dup2, 1) := by decide +kernel
theorem dX12_put_57 : decode cX12_put 57 = .ok (.iaload, 1) := by decide +kernel
theorem dX12_put_58 : decode cX12_put 58 = .ok (.iconst 1, 1) := by decide +kernel
theorem dX12_put_59 : decode cX12_put 59 = .ok (.iadd, 1) := by decide +kernel
theorem dX12_put_60 : decode cX12_put 60 = .ok (.iastore, 1) := by decide +kernel
theorem dX12_put_61 : decode cX12_put 61 = .ok (.return_, 1) := by decide +kernel
theorem dX12_letterOf_0 : decode cX12_letterOf 0 = .ok (.iload_n 0, 1) := by decide +kernel
theorem dX12_letterOf_1 : decode cX12_letterOf 1 = .ok (.bipush 102, 2) := by decide +kernel
theorem dX12_letterOf_3 : decode cX12_letterOf 3 = .ok (.if_icmp .ne 7, 3) := by decide +kernel
theorem dX12_letterOf_6 : decode cX12_letterOf 6 = .ok (.iconst 0, 1) := by decide +kernel
theorem dX12_letterOf_7 : decode cX12_letterOf 7 = .ok (.goto 44, 3) := by decide +kernel
theorem dX12_letterOf_10 : decode cX12_letterOf 10 = .ok (.iload_n 0, 1) := by decide +kernel
theorem dX12_letterOf_11 : decode cX12_letterOf 11 = .ok (.bipush 112, 2) := by decide +kernel
theorem dX12_letterOf_13 : decode cX12_letterOf 13 = .ok (.if_icmp .ne 7, 3) := by decide +kernel
theorem dX12_letterOf_16 : decode cX12_letterOf 16 = .ok (.iconst 1, 1) := by decide +kernel
theorem dX12_letterOf_17 : decode cX12_letterOf 17 = .ok (.goto 34, 3) := by decide +kernel
theorem dX12_letterOf_20 : decode cX12_letterOf 20 = .ok (.iload_n 0, 1) := by decide +kernel
theorem dX12_letterOf_21 : decode cX12_letterOf 21 = .ok (.bipush 115, 2) := by decide +kernel
theorem dX12_letterOf_23 : decode cX12_letterOf 23 = .ok (.if_icmp .ne 7, 3) := by decide +kernel
theorem dX12_letterOf_26 : decode cX12_letterOf 26 = .ok (.iconst 2, 1) := by decide +kernel
theorem dX12_letterOf_27 : decode cX12_letterOf 27 = .ok (.goto 24, 3) := by decide +kernel
theorem dX12_letterOf_30 : decode cX12_letterOf 30 = .ok (.iload_n 0, 1) := by decide +kernel
theorem dX12_letterOf_31 : decode cX12_letterOf 31 = .ok (.bipush 108, 2) := by decide +kernel
theorem dX12_letterOf_33 : decode cX12_letterOf 33 = .ok (.if_icmp .ne 7, 3) := by decide +kernel
theorem dX12_letterOf_36 : decode cX12_letterOf 36 = .ok (.iconst 3, 1) := by decide +kernel
theorem dX12_letterOf_37 : decode cX12_letterOf 37 = .ok (.goto 14, 3) := by decide +kernel
theorem dX12_letterOf_40 : decode cX12_letterOf 40 = .ok (.iload_n 0, 1) := by decide +kernel
theorem dX12_letterOf_41 : decode cX12_letterOf 41 = .ok (.bipush 119, 2) := by decide +kernel
theorem dX12_letterOf_43 : decode cX12_letterOf 43 = .ok (.if_icmp .ne 7, 3) := by decide +kernel
theorem dX12_letterOf_46 : decode cX12_letterOf 46 = .ok (.iconst 4, 1) := by decide +kernel
theorem dX12_letterOf_47 : decode cX12_letterOf 47 = .ok (.goto 4, 3) := by decide +kernel
theorem dX12_letterOf_50 : decode cX12_letterOf 50 = .ok (.iconst (-1), 1) := by decide +kernel
theorem dX12_letterOf_51 : decode cX12_letterOf 51 = .ok (.ireturn, 1) := by decide +kernel
theorem dX12_opens_0 : decode cX12_opens 0 = .ok (.aload_n 0, 1) := by decide +kernel
theorem dX12_opens_1 : decode cX12_opens 1 = .ok (.getfield 177, 3) := by decide +kernel
theorem dX12_opens_4 : decode cX12_opens 4 = .ok (.bipush 6, 2) := by decide +kernel
theorem dX12_opens_6 : decode cX12_opens 6 = .ok (.if_icmp .ne 7, 3) := by decide +kernel
theorem dX12_opens_9 : decode cX12_opens 9 = .ok (.aload_n 0, 1) := by decide +kernel
theorem dX12_opens_10 : decode cX12_opens 10 = .ok (.invokevirtual 180, 3) := by decide +kernel
theorem dX12_opens_13 : decode cX12_opens 13 = .ok (.aload_n 0, 1) := by decide +kernel
theorem dX12_opens_14 : decode cX12_opens 14 = .ok (.dup, 1) := by decide +kernel
theorem dX12_opens_15 : decode cX12_opens 15 = .ok (.getfield 177, 3) := by decide +kernel
theorem dX12_opens_18 : decode cX12_opens 18 = .ok (.iconst 1, 1) := by decide +kernel
theorem dX12_opens_19 : decode cX12_opens 19 = .ok (.iadd, 1) := by decide +kernel
theorem dX12_opens_20 : decode cX12_opens 20 = .ok (.putfield 177, 3) := by decide +kernel
theorem dX12_opens_23 : decode cX12_opens 23 = .ok (.aload_n 0, 1) := by decide +kernel
theorem dX12_opens_24 : decode cX12_opens 24 = .ok (.dup, 1) := by decide +kernel
theorem dX12_opens_25 : decode cX12_opens 25 = .ok (.getfield 164, 3) := by decide +kernel
theorem dX12_opens_28 : decode cX12_opens 28 = .ok (.iconst 1, 1) := by decide +kernel
theorem dX12_opens_29 : decode cX12_opens 29 = .ok (.iadd, 1) := by decide +kernel
theorem dX12_opens_30 : decode cX12_opens 30 = .ok (.putfield 164, 3) := by decide +kernel
theorem dX12_opens_33 : decode cX12_opens 33 = .ok (.return_, 1) := by decide +kernel
theorem dX12_closes_0 : decode cX12_closes 0 = .ok (.aload_n 0, 1) := by decide +kernel
theorem dX12_closes_1 : decode cX12_closes 1 = .ok (.getfield 171, 3) := by decide +kernel
theorem dX12_closes_4 : decode cX12_closes 4 = .ok (.iconst (-1), 1) := by decide +kernel
theorem dX12_closes_5 : decode cX12_closes 5 = .ok (.if_icmp .ne 15, 3) := by decide +kernel
theorem dX12_closes_8 : decode cX12_closes 8 = .ok (.aload_n 0, 1) := by decide +kernel
theorem dX12_closes_9 : decode cX12_closes 9 = .ok (.invokevirtual 183, 3) := by decide +kernel
theorem dX12_closes_12 : decode cX12_closes 12 = .ok (.iload_n 1, 1) := by decide +kernel
theorem dX12_closes_13 : decode cX12_closes 13 = .ok (.if_icmp .eq 7, 3) := by decide +kernel
theorem dX12_closes_16 : decode cX12_closes 16 = .ok (.aload_n 0, 1) := by decide +kernel
theorem dX12_closes_17 : decode cX12_closes 17 = .ok (.invokevirtual 180, 3) := by decide +kernel
theorem dX12_closes_20 : decode cX12_closes 20 = .ok (.aload_n 0, 1) := by decide +kernel
theorem dX12_closes_21 : decode cX12_closes 21 = .ok (.dup, 1) := by decide +kernel
theorem dX12_closes_22 : decode cX12_closes 22 = .ok (.getfield 164, 3) := by decide +kernel
theorem dX12_closes_25 : decode cX12_closes 25 = .ok (.iconst 1, 1) := by decide +kernel
theorem dX12_closes_26 : decode cX12_closes 26 = .ok (.iadd, 1) := by decide +kernel
theorem dX12_closes_27 : decode cX12_closes 27 = .ok (.putfield 164, 3) := by decide +kernel
theorem dX12_closes_30 : decode cX12_closes 30 = .ok (.aload_n 0, 1) := by decide +kernel
theorem dX12_closes_31 : decode cX12_closes 31 = .ok (.dup, 1) := by decide +kernel
theorem dX12_closes_32 : decode cX12_closes 32 = .ok (.getfield 177, 3) := by decide +kernel
theorem dX12_closes_35 : decode cX12_closes 35 = .ok (.iconst 1, 1) := by decide +kernel
theorem dX12_closes_36 : decode cX12_closes 36 = .ok (.isub, 1) := by decide +kernel
theorem dX12_closes_37 : decode cX12_closes 37 = .ok (.putfield 177, 3) := by decide +kernel
theorem dX12_closes_40 : decode cX12_closes 40 = .ok (.return_, 1) := by decide +kernel
theorem dX12_plainNumber_0 : decode cX12_plainNumber 0 = .ok (.iconst 0, 1) := by decide +kernel
theorem dX12_plainNumber_1 : decode cX12_plainNumber 1 = .ok (.istore_n 1, 1) := by decide +kernel
theorem dX12_plainNumber_2 : decode cX12_plainNumber 2 = .ok (.iconst 0, 1) := by decide +kernel
theorem dX12_plainNumber_3 : decode cX12_plainNumber 3 = .ok (.istore_n 2, 1) := by decide +kernel
theorem dX12_plainNumber_4 : decode cX12_plainNumber 4 = .ok (.iload_n 2, 1) := by decide +kernel
theorem dX12_plainNumber_5 : decode cX12_plainNumber 5 = .ok (.iconst 4, 1) := by decide +kernel
theorem dX12_plainNumber_6 : decode cX12_plainNumber 6 = .ok (.if_icmp .ge 42, 3) := by decide +kernel
theorem dX12_plainNumber_9 : decode cX12_plainNumber 9 = .ok (.aload_n 0, 1) := by decide +kernel
theorem dX12_plainNumber_10 : decode cX12_plainNumber 10 = .ok (.invokevirtual 167, 3) := by decide +kernel
theorem dX12_plainNumber_13 : decode cX12_plainNumber 13 = .ok (.invokestatic 186, 3) := by decide +kernel
theorem dX12_plainNumber_16 : decode cX12_plainNumber 16 = .ok (.ifCond .eq 32, 3) := by decide +kernel
theorem dX12_plainNumber_19 : decode cX12_plainNumber 19 = .ok (.bipush 10, 2) := by decide +kernel
theorem dX12_plainNumber_21 : decode cX12_plainNumber 21 = .ok (.iload_n 1, 1) := by decide +kernel
theorem dX12_plainNumber_22 : decode cX12_plainNumber 22 = .ok (.imul, 1) := by decide +kernel
theorem dX12_plainNumber_23 : decode cX12_plainNumber 23 = .ok (.aload_n 0, 1) := by decide +kernel
theorem dX12_plainNumber_24 : decode cX12_plainNumber 24 = .ok (.invokevirtual 167, 3) := by decide +kernel
theorem dX12_plainNumber_27 : decode cX12_plainNumber 27 = .ok (.iadd, 1) := by decide +kernel
theorem dX12_plainNumber_28 : decode cX12_plainNumber 28 = .ok (.bipush 48, 2) := by decide +kernel
theorem dX12_plainNumber_30 : decode cX12_plainNumber 30 = .ok (.isub, 1) := by decide +kernel
theorem dX12_plainNumber_31 : decode cX12_plainNumber 31 = .ok (.istore_n 1, 1) := by decide +kernel
theorem dX12_plainNumber_32 : decode cX12_plainNumber 32 = .ok (.aload_n 0, 1) := by decide +kernel
theorem dX12_plainNumber_33 : decode cX12_plainNumber 33 = .ok (.dup, 1) := by decide +kernel
theorem dX12_plainNumber_34 : decode cX12_plainNumber 34 = .ok (.getfield 164, 3) := by decide +kernel
theorem dX12_plainNumber_37 : decode cX12_plainNumber 37 = .ok (.iconst 1, 1) := by decide +kernel
theorem dX12_plainNumber_38 : decode cX12_plainNumber 38 = .ok (.iadd, 1) := by decide +kernel
theorem dX12_plainNumber_39 : decode cX12_plainNumber 39 = .ok (.putfield 164, 3) := by decide +kernel
theorem dX12_plainNumber_42 : decode cX12_plainNumber 42 = .ok (.iinc 2 1, 3) := by decide +kernel
theorem dX12_plainNumber_45 : decode cX12_plainNumber 45 = .ok (.goto (-41), 3) := by decide +kernel
theorem dX12_plainNumber_48 : decode cX12_plainNumber 48 = .ok (.aload_n 0, 1) := by decide +kernel
theorem dX12_plainNumber_49 : decode cX12_plainNumber 49 = .ok (.invokevirtual 167, 3) := by decide +kernel
theorem dX12_plainNumber_52 : decode cX12_plainNumber 52 = .ok (.invokestatic 186, 3) := by decide +kernel
theorem dX12_plainNumber_55 : decode cX12_plainNumber 55 = .ok (.ifCond .eq 7, 3) := by decide +kernel
theorem dX12_plainNumber_58 : decode cX12_plainNumber 58 = .ok (.aload_n 0, 1) := by decide +kernel
theorem dX12_plainNumber_59 : decode cX12_plainNumber 59 = .ok (.invokevirtual 180, 3) := by decide +kernel
theorem dX12_plainNumber_62 : decode cX12_plainNumber 62 = .ok (.iload_n 1, 1) := by decide +kernel
theorem dX12_plainNumber_63 : decode cX12_plainNumber 63 = .ok (.ireturn, 1) := by decide +kernel
theorem dX12_atom_0 : decode cX12_atom 0 = .ok (.aload_n 0, 1) := by decide +kernel
theorem dX12_atom_1 : decode cX12_atom 1 = .ok (.invokevirtual 183, 3) := by decide +kernel
theorem dX12_atom_4 : decode cX12_atom 4 = .ok (.istore_n 1, 1) := by decide +kernel
theorem dX12_atom_5 : decode cX12_atom 5 = .ok (.iload_n 1, 1) := by decide +kernel
theorem dX12_atom_6 : decode cX12_atom 6 = .ok (.invokestatic 186, 3) := by decide +kernel
theorem dX12_atom_9 : decode cX12_atom 9 = .ok (.ifCond .eq 15, 3) := by decide +kernel
theorem dX12_atom_12 : decode cX12_atom 12 = .ok (.aload_n 0, 1) := by decide +kernel
theorem dX12_atom_13 : decode cX12_atom 13 = .ok (.iconst 0, 1) := by decide +kernel
theorem dX12_atom_14 : decode cX12_atom 14 = .ok (.aload_n 0, 1) := by decide +kernel
theorem dX12_atom_15 : decode cX12_atom 15 = .ok (.invokevirtual 190, 3) := by decide +kernel
theorem dX12_atom_18 : decode cX12_atom 18 = .ok (.invokevirtual 193, 3) := by decide +kernel
theorem dX12_atom_21 : decode cX12_atom 21 = .ok (.goto 68, 3) := by decide +kernel
theorem dX12_atom_24 : decode cX12_atom 24 = .ok (.iload_n 1, 1) := by decide +kernel
theorem dX12_atom_25 : decode cX12_atom 25 = .ok (.invokestatic 197, 3) := by decide +kernel
theorem dX12_atom_28 : decode cX12_atom 28 = .ok (.iconst (-1), 1) := by decide +kernel
theorem dX12_atom_29 : decode cX12_atom 29 = .ok (.if_icmp .eq 25, 3) := by decide +kernel
theorem dX12_atom_32 : decode cX12_atom 32 = .ok (.aload_n 0, 1) := by decide +kernel
theorem dX12_atom_33 : decode cX12_atom 33 = .ok (.dup, 1) := by decide +kernel
theorem dX12_atom_34 : decode cX12_atom 34 = .ok (.getfield 164, 3) := by decide +kernel
theorem dX12_atom_37 : decode cX12_atom 37 = .ok (.iconst 1, 1) := by decide +kernel
theorem dX12_atom_38 : decode cX12_atom 38 = .ok (.iadd, 1) := by decide +kernel
theorem dX12_atom_39 : decode cX12_atom 39 = .ok (.putfield 164, 3) := by decide +kernel
theorem dX12_atom_42 : decode cX12_atom 42 = .ok (.aload_n 0, 1) := by decide +kernel
theorem dX12_atom_43 : decode cX12_atom 43 = .ok (.iconst 1, 1) := by decide +kernel
theorem dX12_atom_44 : decode cX12_atom 44 = .ok (.iload_n 1, 1) := by decide +kernel
theorem dX12_atom_45 : decode cX12_atom 45 = .ok (.invokestatic 197, 3) := by decide +kernel
theorem dX12_atom_48 : decode cX12_atom 48 = .ok (.invokevirtual 193, 3) := by decide +kernel
theorem dX12_atom_51 : decode cX12_atom 51 = .ok (.goto 38, 3) := by decide +kernel
theorem dX12_atom_54 : decode cX12_atom 54 = .ok (.iload_n 1, 1) := by decide +kernel
theorem dX12_atom_55 : decode cX12_atom 55 = .ok (.bipush 91, 2) := by decide +kernel
theorem dX12_atom_57 : decode cX12_atom 57 = .ok (.if_icmp .ne 28, 3) := by decide +kernel
theorem dX12_atom_60 : decode cX12_atom 60 = .ok (.aload_n 0, 1) := by decide +kernel
theorem dX12_atom_61 : decode cX12_atom 61 = .ok (.invokevirtual 201, 3) := by decide +kernel
theorem dX12_atom_64 : decode cX12_atom 64 = .ok (.aload_n 0, 1) := by decide +kernel
theorem dX12_atom_65 : decode cX12_atom 65 = .ok (.getfield 171, 3) := by decide +kernel
theorem dX12_atom_68 : decode cX12_atom 68 = .ok (.iconst (-1), 1) := by decide +kernel
theorem dX12_atom_69 : decode cX12_atom 69 = .ok (.if_icmp .ne 20, 3) := by decide +kernel
theorem dX12_atom_72 : decode cX12_atom 72 = .ok (.aload_n 0, 1) := by decide +kernel
theorem dX12_atom_73 : decode cX12_atom 73 = .ok (.invokevirtual 204, 3) := by decide +kernel
theorem dX12_atom_76 : decode cX12_atom 76 = .ok (.aload_n 0, 1) := by decide +kernel
theorem dX12_atom_77 : decode cX12_atom 77 = .ok (.bipush 93, 2) := by decide +kernel
theorem dX12_atom_79 : decode cX12_atom 79 = .ok (.invokevirtual 207, 3) := by decide +kernel
theorem dX12_atom_82 : decode cX12_atom 82 = .ok (.goto 7, 3) := by decide +kernel
theorem dX12_atom_85 : decode cX12_atom 85 = .ok (.aload_n 0, 1) := by decide +kernel
theorem dX12_atom_86 : decode cX12_atom 86 = .ok (.invokevirtual 180, 3) := by decide +kernel
theorem dX12_atom_89 : decode cX12_atom 89 = .ok (.return_, 1) := by decide +kernel
theorem dX12_term_0 : decode cX12_term 0 = .ok (.aload_n 0, 1) := by decide +kernel
theorem dX12_term_1 : decode cX12_term 1 = .ok (.invokevirtual 211, 3) := by decide +kernel
theorem dX12_term_4 : decode cX12_term 4 = .ok (.aload_n 0, 1) := by decide +kernel
theorem dX12_term_5 : decode cX12_term 5 = .ok (.getfield 171, 3) := by decide +kernel
theorem dX12_term_8 : decode cX12_term 8 = .ok (.iconst (-1), 1) := by decide +kernel
theorem dX12_term_9 : decode cX12_term 9 = .ok (.if_icmp .ne 10, 3) := by decide +kernel
theorem dX12_term_12 : decode cX12_term 12 = .ok (.aload_n 0, 1) := by decide +kernel
theorem dX12_term_13 : decode cX12_term 13 = .ok (.invokevirtual 183, 3) := by decide +kernel
theorem dX12_term_16 : decode cX12_term 16 = .ok (.goto 4, 3) := by decide +kernel
theorem dX12_term_19 : decode cX12_term 19 = .ok (.iconst (-1), 1) := by decide +kernel
theorem dX12_term_20 : decode cX12_term 20 = .ok (.istore_n 1, 1) := by decide +kernel
theorem dX12_term_21 : decode cX12_term 21 = .ok (.iload_n 1, 1) := by decide +kernel
theorem dX12_term_22 : decode cX12_term 22 = .ok (.bipush 42, 2) := by decide +kernel
theorem dX12_term_24 : decode cX12_term 24 = .ok (.if_icmp .eq 9, 3) := by decide +kernel
theorem dX12_term_27 : decode cX12_term 27 = .ok (.iload_n 1, 1) := by decide +kernel
theorem dX12_term_28 : decode cX12_term 28 = .ok (.bipush 47, 2) := by decide +kernel
theorem dX12_term_30 : decode cX12_term 30 = .ok (.if_icmp .ne 53, 3) := by decide +kernel
theorem dX12_term_33 : decode cX12_term 33 = .ok (.aload_n 0, 1) := by decide +kernel
theorem dX12_term_34 : decode cX12_term 34 = .ok (.dup, 1) := by decide +kernel
theorem dX12_term_35 : decode cX12_term 35 = .ok (.getfield 164, 3) := by decide +kernel
theorem dX12_term_38 : decode cX12_term 38 = .ok (.iconst 1, 1) := by decide +kernel
theorem dX12_term_39 : decode cX12_term 39 = .ok (.iadd, 1) := by decide +kernel
theorem dX12_term_40 : decode cX12_term 40 = .ok (.putfield 164, 3) := by decide +kernel
theorem dX12_term_43 : decode cX12_term 43 = .ok (.aload_n 0, 1) := by decide +kernel
theorem dX12_term_44 : decode cX12_term 44 = .ok (.invokevirtual 211, 3) := by decide +kernel
theorem dX12_term_47 : decode cX12_term 47 = .ok (.aload_n 0, 1) := by decide +kernel
theorem dX12_term_48 : decode cX12_term 48 = .ok (.iload_n 1, 1) := by decide +kernel
theorem dX12_term_49 : decode cX12_term 49 = .ok (.bipush 42, 2) := by decide +kernel
theorem dX12_term_51 : decode cX12_term 51 = .ok (.if_icmp .ne 7, 3) := by decide +kernel
theorem dX12_term_54 : decode cX12_term 54 = .ok (.iconst 4, 1) := by decide +kernel
theorem dX12_term_55 : decode cX12_term 55 = .ok (.goto 4, 3) := by decide +kernel
theorem dX12_term_58 : decode cX12_term 58 = .ok (.iconst 5, 1) := by decide +kernel
theorem dX12_term_59 : decode cX12_term 59 = .ok (.iconst 0, 1) := by decide +kernel
theorem dX12_term_60 : decode cX12_term 60 = .ok (.invokevirtual 193, 3) := by decide +kernel
theorem dX12_term_63 : decode cX12_term 63 = .ok (.aload_n 0, 1) := by decide +kernel
theorem dX12_term_64 : decode cX12_term 64 = .ok (.getfield 171, 3) := by decide +kernel
theorem dX12_term_67 : decode cX12_term 67 = .ok (.iconst (-1), 1) := by decide +kernel
theorem dX12_term_68 : decode cX12_term 68 = .ok (.if_icmp .ne 10, 3) := by decide +kernel
theorem dX12_term_71 : decode cX12_term 71 = .ok (.aload_n 0, 1) := by decide +kernel
theorem dX12_term_72 : decode cX12_term 72 = .ok (.invokevirtual 183, 3) := by decide +kernel
theorem dX12_term_75 : decode cX12_term 75 = .ok (.goto 4, 3) := by decide +kernel
theorem dX12_term_78 : decode cX12_term 78 = .ok (.iconst (-1), 1) := by decide +kernel
theorem dX12_term_79 : decode cX12_term 79 = .ok (.istore_n 1, 1) := by decide +kernel
theorem dX12_term_80 : decode cX12_term 80 = .ok (.goto (-59), 3) := by decide +kernel
theorem dX12_term_83 : decode cX12_term 83 = .ok (.return_, 1) := by decide +kernel
theorem dX12_sum_0 : decode cX12_sum 0 = .ok (.aload_n 0, 1) := by decide +kernel
theorem dX12_sum_1 : decode cX12_sum 1 = .ok (.invokevirtual 214, 3) := by decide +kernel
theorem dX12_sum_4 : decode cX12_sum 4 = .ok (.aload_n 0, 1) := by decide +kernel
theorem dX12_sum_5 : decode cX12_sum 5 = .ok (.getfield 171, 3) := by decide +kernel
theorem dX12_sum_8 : decode cX12_sum 8 = .ok (.iconst (-1), 1) := by decide +kernel
theorem dX12_sum_9 : decode cX12_sum 9 = .ok (.if_icmp .ne 10, 3) := by decide +kernel
theorem dX12_sum_12 : decode cX12_sum 12 = .ok (.aload_n 0, 1) := by decide +kernel
theorem dX12_sum_13 : decode cX12_sum 13 = .ok (.invokevirtual 183, 3) := by decide +kernel
theorem dX12_sum_16 : decode cX12_sum 16 = .ok (.goto 4, 3) := by decide +kernel
theorem dX12_sum_19 : decode cX12_sum 19 = .ok (.iconst (-1), 1) := by decide +kernel
theorem dX12_sum_20 : decode cX12_sum 20 = .ok (.istore_n 1, 1) := by decide +kernel
theorem dX12_sum_21 : decode cX12_sum 21 = .ok (.iload_n 1, 1) := by decide +kernel
theorem dX12_sum_22 : decode cX12_sum 22 = .ok (.bipush 43, 2) := by decide +kernel
theorem dX12_sum_24 : decode cX12_sum 24 = .ok (.if_icmp .eq 9, 3) := by decide +kernel
theorem dX12_sum_27 : decode cX12_sum 27 = .ok (.iload_n 1, 1) := by decide +kernel
theorem dX12_sum_28 : decode cX12_sum 28 = .ok (.bipush 45, 2) := by decide +kernel
theorem dX12_sum_30 : decode cX12_sum 30 = .ok (.if_icmp .ne 53, 3) := by decide +kernel
theorem dX12_sum_33 : decode cX12_sum 33 = .ok (.aload_n 0, 1) := by decide +kernel
theorem dX12_sum_34 : decode cX12_sum 34 = .ok (.dup, 1) := by decide +kernel
theorem dX12_sum_35 : decode cX12_sum 35 = .ok (.getfield 164, 3) := by decide +kernel
theorem dX12_sum_38 : decode cX12_sum 38 = .ok (.iconst 1, 1) := by decide +kernel
theorem dX12_sum_39 : decode cX12_sum 39 = .ok (.iadd, 1) := by decide +kernel
theorem dX12_sum_40 : decode cX12_sum 40 = .ok (.putfield 164, 3) := by decide +kernel
theorem dX12_sum_43 : decode cX12_sum 43 = .ok (.aload_n 0, 1) := by decide +kernel
theorem dX12_sum_44 : decode cX12_sum 44 = .ok (.invokevirtual 214, 3) := by decide +kernel
theorem dX12_sum_47 : decode cX12_sum 47 = .ok (.aload_n 0, 1) := by decide +kernel
theorem dX12_sum_48 : decode cX12_sum 48 = .ok (.iload_n 1, 1) := by decide +kernel
theorem dX12_sum_49 : decode cX12_sum 49 = .ok (.bipush 43, 2) := by decide +kernel
theorem dX12_sum_51 : decode cX12_sum 51 = .ok (.if_icmp .ne 7, 3) := by decide +kernel
theorem dX12_sum_54 : decode cX12_sum 54 = .ok (.iconst 2, 1) := by decide +kernel
theorem dX12_sum_55 : decode cX12_sum 55 = .ok (.goto 4, 3) := by decide +kernel
theorem dX12_sum_58 : decode cX12_sum 58 = .ok (.iconst 3, 1) := by decide +kernel
theorem dX12_sum_59 : decode cX12_sum 59 = .ok (.iconst 0, 1) := by decide +kernel
theorem dX12_sum_60 : decode cX12_sum 60 = .ok (.invokevirtual 193, 3) := by decide +kernel
theorem dX12_sum_63 : decode cX12_sum 63 = .ok (.aload_n 0, 1) := by decide +kernel
theorem dX12_sum_64 : decode cX12_sum 64 = .ok (.getfield 171, 3) := by decide +kernel
theorem dX12_sum_67 : decode cX12_sum 67 = .ok (.iconst (-1), 1) := by decide +kernel
theorem dX12_sum_68 : decode cX12_sum 68 = .ok (.if_icmp .ne 10, 3) := by decide +kernel
theorem dX12_sum_71 : decode cX12_sum 71 = .ok (.aload_n 0, 1) := by decide +kernel
theorem dX12_sum_72 : decode cX12_sum 72 = .ok (.invokevirtual 183, 3) := by decide +kernel
theorem dX12_sum_75 : decode cX12_sum 75 = .ok (.goto 4, 3) := by decide +kernel
theorem dX12_sum_78 : decode cX12_sum 78 = .ok (.iconst (-1), 1) := by decide +kernel
theorem dX12_sum_79 : decode cX12_sum 79 = .ok (.istore_n 1, 1) := by decide +kernel
theorem dX12_sum_80 : decode cX12_sum 80 = .ok (.goto (-59), 3) := by decide +kernel
theorem dX12_sum_83 : decode cX12_sum 83 = .ok (.return_, 1) := by decide +kernel
theorem dX12_isSign_0 : decode cX12_isSign 0 = .ok (.iload_n 0, 1) := by decide +kernel
theorem dX12_isSign_1 : decode cX12_isSign 1 = .ok (.bipush 61, 2) := by decide +kernel
theorem dX12_isSign_3 : decode cX12_isSign 3 = .ok (.if_icmp .eq 15, 3) := by decide +kernel
theorem dX12_isSign_6 : decode cX12_isSign 6 = .ok (.iload_n 0, 1) := by decide +kernel
theorem dX12_isSign_7 : decode cX12_isSign 7 = .ok (.bipush 60, 2) := by decide +kernel
theorem dX12_isSign_9 : decode cX12_isSign 9 = .ok (.if_icmp .eq 9, 3) := by decide +kernel
theorem dX12_isSign_12 : decode cX12_isSign 12 = .ok (.iload_n 0, 1) := by decide +kernel
theorem dX12_isSign_13 : decode cX12_isSign 13 = .ok (.bipush 62, 2) := by decide +kernel
theorem dX12_isSign_15 : decode cX12_isSign 15 = .ok (.if_icmp .ne 7, 3) := by decide +kernel
theorem dX12_isSign_18 : decode cX12_isSign 18 = .ok (.iconst 1, 1) := by decide +kernel
theorem dX12_isSign_19 : decode cX12_isSign 19 = .ok (.goto 4, 3) := by decide +kernel
theorem dX12_isSign_22 : decode cX12_isSign 22 = .ok (.iconst 0, 1) := by decide +kernel
theorem dX12_isSign_23 : decode cX12_isSign 23 = .ok (.ireturn, 1) := by decide +kernel
theorem dX12_compare_0 : decode cX12_compare 0 = .ok (.aload_n 0, 1) := by decide +kernel
theorem dX12_compare_1 : decode cX12_compare 1 = .ok (.getfield 171, 3) := by decide +kernel
theorem dX12_compare_4 : decode cX12_compare 4 = .ok (.iconst (-1), 1) := by decide +kernel
theorem dX12_compare_5 : decode cX12_compare 5 = .ok (.if_icmp .ne 10, 3) := by decide +kernel
theorem dX12_compare_8 : decode cX12_compare 8 = .ok (.aload_n 0, 1) := by decide +kernel
theorem dX12_compare_9 : decode cX12_compare 9 = .ok (.invokevirtual 183, 3) := by decide +kernel
theorem dX12_compare_12 : decode cX12_compare 12 = .ok (.goto 4, 3) := by decide +kernel
theorem dX12_compare_15 : decode cX12_compare 15 = .ok (.iconst (-1), 1) := by decide +kernel
theorem dX12_compare_16 : decode cX12_compare 16 = .ok (.istore_n 1, 1) := by decide +kernel
theorem dX12_compare_17 : decode cX12_compare 17 = .ok (.iload_n 1, 1) := by decide +kernel
theorem dX12_compare_18 : decode cX12_compare 18 = .ok (.invokestatic 217, 3) := by decide +kernel
theorem dX12_compare_21 : decode cX12_compare 21 = .ok (.ifCond .ne 8, 3) := by decide +kernel
theorem dX12_compare_24 : decode cX12_compare 24 = .ok (.aload_n 0, 1) := by decide +kernel
theorem dX12_compare_25 : decode cX12_compare 25 = .ok (.invokevirtual 180, 3) := by decide +kernel
theorem dX12_compare_28 : decode cX12_compare 28 = .ok (.return_, 1) := by decide +kernel
theorem dX12_compare_29 : decode cX12_compare 29 = .ok (.aload_n 0, 1) := by decide +kernel
theorem dX12_compare_30 : decode cX12_compare 30 = .ok (.dup, 1) := by decide +kernel
theorem dX12_compare_31 : decode cX12_compare 31 = .ok (.getfield 164, 3) := by decide +kernel
theorem dX12_compare_34 : decode cX12_compare 34 = .ok (.iconst 1, 1) := by decide +kernel
theorem dX12_compare_35 : decode cX12_compare 35 = .ok (.iadd, 1) := by decide +kernel
theorem dX12_compare_36 : decode cX12_compare 36 = .ok (.putfield 164, 3) := by decide +kernel
theorem dX12_compare_39 : decode cX12_compare 39 = .ok (.aload_n 0, 1) := by decide +kernel
theorem dX12_compare_40 : decode cX12_compare 40 = .ok (.invokevirtual 204, 3) := by decide +kernel
theorem dX12_compare_43 : decode cX12_compare 43 = .ok (.aload_n 0, 1) := by decide +kernel
theorem dX12_compare_44 : decode cX12_compare 44 = .ok (.iload_n 1, 1) := by decide +kernel
theorem dX12_compare_45 : decode cX12_compare 45 = .ok (.bipush 61, 2) := by decide +kernel
theorem dX12_compare_47 : decode cX12_compare 47 = .ok (.if_icmp .ne 8, 3) := by decide +kernel
theorem dX12_compare_50 : decode cX12_compare 50 = .ok (.bipush 6, 2) := by decide +kernel
theorem dX12_compare_52 : decode cX12_compare 52 = .ok (.goto 16, 3) := by decide +kernel
theorem dX12_compare_55 : decode cX12_compare 55 = .ok (.iload_n 1, 1) := by decide +kernel
theorem dX12_compare_56 : decode cX12_compare 56 = .ok (.bipush 60, 2) := by decide +kernel
theorem dX12_compare_58 : decode cX12_compare 58 = .ok (.if_icmp .ne 8, 3) := by decide +kernel
theorem dX12_compare_61 : decode cX12_compare 61 = .ok (.bipush 7, 2) := by decide +kernel
theorem dX12_compare_63 : decode cX12_compare 63 = .ok (.goto 5, 3) := by decide +kernel
theorem dX12_compare_66 : decode cX12_compare 66 = .ok (.bipush 8, 2) := by decide +kernel
theorem dX12_compare_68 : decode cX12_compare 68 = .ok (.iconst 0, 1) := by decide +kernel
theorem dX12_compare_69 : decode cX12_compare 69 = .ok (.invokevirtual 193, 3) := by decide +kernel
theorem dX12_compare_72 : decode cX12_compare 72 = .ok (.return_, 1) := by decide +kernel
theorem dX12_unit_0 : decode cX12_unit 0 = .ok (.aload_n 0, 1) := by decide +kernel
theorem dX12_unit_1 : decode cX12_unit 1 = .ok (.invokevirtual 183, 3) := by decide +kernel
theorem dX12_unit_4 : decode cX12_unit 4 = .ok (.istore_n 1, 1) := by decide +kernel
theorem dX12_unit_5 : decode cX12_unit 5 = .ok (.iload_n 1, 1) := by decide +kernel
theorem dX12_unit_6 : decode cX12_unit 6 = .ok (.bipush 33, 2) := by decide +kernel
theorem dX12_unit_8 : decode cX12_unit 8 = .ok (.if_icmp .ne 39, 3) := by decide +kernel
theorem dX12_unit_11 : decode cX12_unit 11 = .ok (.aload_n 0, 1) := by decide +kernel
theorem dX12_unit_12 : decode cX12_unit 12 = .ok (.invokevirtual 201, 3) := by decide +kernel
theorem dX12_unit_15 : decode cX12_unit 15 = .ok (.aload_n 0, 1) := by decide +kernel
theorem dX12_unit_16 : decode cX12_unit 16 = .ok (.getfield 171, 3) := by decide +kernel
theorem dX12_unit_19 : decode cX12_unit 19 = .ok (.iconst (-1), 1) := by decide +kernel
theorem dX12_unit_20 : decode cX12_unit 20 = .ok (.if_icmp .ne 74, 3) := by decide +kernel
theorem dX12_unit_23 : decode cX12_unit 23 = .ok (.aload_n 0, 1) := by decide +kernel
theorem dX12_unit_24 : decode cX12_unit 24 = .ok (.invokevirtual 220, 3) := by decide +kernel
theorem dX12_unit_27 : decode cX12_unit 27 = .ok (.aload_n 0, 1) := by decide +kernel
theorem dX12_unit_28 : decode cX12_unit 28 = .ok (.bipush 9, 2) := by decide +kernel
theorem dX12_unit_30 : decode cX12_unit 30 = .ok (.iconst 0, 1) := by decide +kernel
theorem dX12_unit_31 : decode cX12_unit 31 = .ok (.invokevirtual 193, 3) := by decide +kernel
theorem dX12_unit_34 : decode cX12_unit 34 = .ok (.aload_n 0, 1) := by decide +kernel
theorem dX12_unit_35 : decode cX12_unit 35 = .ok (.dup, 1) := by decide +kernel
theorem dX12_unit_36 : decode cX12_unit 36 = .ok (.getfield 177, 3) := by decide +kernel
theorem dX12_unit_39 : decode cX12_unit 39 = .ok (.iconst 1, 1) := by decide +kernel
theorem dX12_unit_40 : decode cX12_unit 40 = .ok (.isub, 1) := by decide +kernel
theorem dX12_unit_41 : decode cX12_unit 41 = .ok (.putfield 177, 3) := by decide +kernel
theorem dX12_unit_44 : decode cX12_unit 44 = .ok (.goto 50, 3) := by decide +kernel
theorem dX12_unit_47 : decode cX12_unit 47 = .ok (.iload_n 1, 1) := by decide +kernel
theorem dX12_unit_48 : decode cX12_unit 48 = .ok (.bipush 40, 2) := by decide +kernel
theorem dX12_unit_50 : decode cX12_unit 50 = .ok (.if_icmp .ne 28, 3) := by decide +kernel
theorem dX12_unit_53 : decode cX12_unit 53 = .ok (.aload_n 0, 1) := by decide +kernel
theorem dX12_unit_54 : decode cX12_unit 54 = .ok (.invokevirtual 201, 3) := by decide +kernel
theorem dX12_unit_57 : decode cX12_unit 57 = .ok (.aload_n 0, 1) := by decide +kernel
theorem dX12_unit_58 : decode cX12_unit 58 = .ok (.getfield 171, 3) := by decide +kernel
theorem dX12_unit_61 : decode cX12_unit 61 = .ok (.iconst (-1), 1) := by decide +kernel
theorem dX12_unit_62 : decode cX12_unit 62 = .ok (.if_icmp .ne 32, 3) := by decide +kernel
theorem dX12_unit_65 : decode cX12_unit 65 = .ok (.aload_n 0, 1) := by decide +kernel
theorem dX12_unit_66 : decode cX12_unit 66 = .ok (.invokevirtual 223, 3) := by decide +kernel
theorem dX12_unit_69 : decode cX12_unit 69 = .ok (.aload_n 0, 1) := by decide +kernel
theorem dX12_unit_70 : decode cX12_unit 70 = .ok (.bipush 41, 2) := by decide +kernel
theorem dX12_unit_72 : decode cX12_unit 72 = .ok (.invokevirtual 207, 3) := by decide +kernel
theorem dX12_unit_75 : decode cX12_unit 75 = .ok (.goto 19, 3) := by decide +kernel
theorem dX12_unit_78 : decode cX12_unit 78 = .ok (.aload_n 0, 1) := by decide +kernel
theorem dX12_unit_79 : decode cX12_unit 79 = .ok (.invokevirtual 204, 3) := by decide +kernel
theorem dX12_unit_82 : decode cX12_unit 82 = .ok (.aload_n 0, 1) := by decide +kernel
theorem dX12_unit_83 : decode cX12_unit 83 = .ok (.getfield 171, 3) := by decide +kernel
theorem dX12_unit_86 : decode cX12_unit 86 = .ok (.iconst (-1), 1) := by decide +kernel
theorem dX12_unit_87 : decode cX12_unit 87 = .ok (.if_icmp .ne 7, 3) := by decide +kernel
theorem dX12_unit_90 : decode cX12_unit 90 = .ok (.aload_n 0, 1) := by decide +kernel
theorem dX12_unit_91 : decode cX12_unit 91 = .ok (.invokevirtual 226, 3) := by decide +kernel
theorem dX12_unit_94 : decode cX12_unit 94 = .ok (.return_, 1) := by decide +kernel
theorem dX12_goOnAnd_0 : decode cX12_goOnAnd 0 = .ok (.aload_n 0, 1) := by decide +kernel
theorem dX12_goOnAnd_1 : decode cX12_goOnAnd 1 = .ok (.getfield 171, 3) := by decide +kernel
theorem dX12_goOnAnd_4 : decode cX12_goOnAnd 4 = .ok (.iconst (-1), 1) := by decide +kernel
theorem dX12_goOnAnd_5 : decode cX12_goOnAnd 5 = .ok (.if_icmp .ne 36, 3) := by decide +kernel
theorem dX12_goOnAnd_8 : decode cX12_goOnAnd 8 = .ok (.aload_n 0, 1) := by decide +kernel
theorem dX12_goOnAnd_9 : decode cX12_goOnAnd 9 = .ok (.invokevirtual 183, 3) := by decide +kernel
theorem dX12_goOnAnd_12 : decode cX12_goOnAnd 12 = .ok (.bipush 38, 2) := by decide +kernel
theorem dX12_goOnAnd_14 : decode cX12_goOnAnd 14 = .ok (.if_icmp .ne 27, 3) := by decide +kernel
theorem dX12_goOnAnd_17 : decode cX12_goOnAnd 17 = .ok (.aload_n 0, 1) := by decide +kernel
theorem dX12_goOnAnd_18 : decode cX12_goOnAnd 18 = .ok (.dup, 1) := by decide +kernel
theorem dX12_goOnAnd_19 : decode cX12_goOnAnd 19 = .ok (.getfield 164, 3) := by decide +kernel
theorem dX12_goOnAnd_22 : decode cX12_goOnAnd 22 = .ok (.iconst 1, 1) := by decide +kernel
theorem dX12_goOnAnd_23 : decode cX12_goOnAnd 23 = .ok (.iadd, 1) := by decide +kernel
theorem dX12_goOnAnd_24 : decode cX12_goOnAnd 24 = .ok (.putfield 164, 3) := by decide +kernel
theorem dX12_goOnAnd_27 : decode cX12_goOnAnd 27 = .ok (.aload_n 0, 1) := by decide +kernel
theorem dX12_goOnAnd_28 : decode cX12_goOnAnd 28 = .ok (.invokevirtual 220, 3) := by decide +kernel
theorem dX12_goOnAnd_31 : decode cX12_goOnAnd 31 = .ok (.aload_n 0, 1) := by decide +kernel
theorem dX12_goOnAnd_32 : decode cX12_goOnAnd 32 = .ok (.bipush 10, 2) := by decide +kernel
theorem dX12_goOnAnd_34 : decode cX12_goOnAnd 34 = .ok (.iconst 0, 1) := by decide +kernel
theorem dX12_goOnAnd_35 : decode cX12_goOnAnd 35 = .ok (.invokevirtual 193, 3) := by decide +kernel
theorem dX12_goOnAnd_38 : decode cX12_goOnAnd 38 = .ok (.goto (-38), 3) := by decide +kernel
theorem dX12_goOnAnd_41 : decode cX12_goOnAnd 41 = .ok (.return_, 1) := by decide +kernel
theorem dX12_goOnOr_0 : decode cX12_goOnOr 0 = .ok (.aload_n 0, 1) := by decide +kernel
theorem dX12_goOnOr_1 : decode cX12_goOnOr 1 = .ok (.getfield 171, 3) := by decide +kernel
theorem dX12_goOnOr_4 : decode cX12_goOnOr 4 = .ok (.iconst (-1), 1) := by decide +kernel
theorem dX12_goOnOr_5 : decode cX12_goOnOr 5 = .ok (.if_icmp .ne 40, 3) := by decide +kernel
theorem dX12_goOnOr_8 : decode cX12_goOnOr 8 = .ok (.aload_n 0, 1) := by decide +kernel
theorem dX12_goOnOr_9 : decode cX12_goOnOr 9 = .ok (.invokevirtual 183, 3) := by decide +kernel
theorem dX12_goOnOr_12 : decode cX12_goOnOr 12 = .ok (.bipush 124, 2) := by decide +kernel
theorem dX12_goOnOr_14 : decode cX12_goOnOr 14 = .ok (.if_icmp .ne 31, 3) := by decide +kernel
theorem dX12_goOnOr_17 : decode cX12_goOnOr 17 = .ok (.aload_n 0, 1) := by decide +kernel
theorem dX12_goOnOr_18 : decode cX12_goOnOr 18 = .ok (.dup, 1) := by decide +kernel
theorem dX12_goOnOr_19 : decode cX12_goOnOr 19 = .ok (.getfield 164, 3) := by decide +kernel
theorem dX12_goOnOr_22 : decode cX12_goOnOr 22 = .ok (.iconst 1, 1) := by decide +kernel
theorem dX12_goOnOr_23 : decode cX12_goOnOr 23 = .ok (.iadd, 1) := by decide +kernel
theorem dX12_goOnOr_24 : decode cX12_goOnOr 24 = .ok (.putfield 164, 3) := by decide +kernel
theorem dX12_goOnOr_27 : decode cX12_goOnOr 27 = .ok (.aload_n 0, 1) := by decide +kernel
theorem dX12_goOnOr_28 : decode cX12_goOnOr 28 = .ok (.invokevirtual 220, 3) := by decide +kernel
theorem dX12_goOnOr_31 : decode cX12_goOnOr 31 = .ok (.aload_n 0, 1) := by decide +kernel
theorem dX12_goOnOr_32 : decode cX12_goOnOr 32 = .ok (.invokevirtual 229, 3) := by decide +kernel
theorem dX12_goOnOr_35 : decode cX12_goOnOr 35 = .ok (.aload_n 0, 1) := by decide +kernel
theorem dX12_goOnOr_36 : decode cX12_goOnOr 36 = .ok (.bipush 11, 2) := by decide +kernel
theorem dX12_goOnOr_38 : decode cX12_goOnOr 38 = .ok (.iconst 0, 1) := by decide +kernel
theorem dX12_goOnOr_39 : decode cX12_goOnOr 39 = .ok (.invokevirtual 193, 3) := by decide +kernel
theorem dX12_goOnOr_42 : decode cX12_goOnOr 42 = .ok (.goto (-42), 3) := by decide +kernel
theorem dX12_goOnOr_45 : decode cX12_goOnOr 45 = .ok (.return_, 1) := by decide +kernel
theorem dX12_condition_0 : decode cX12_condition 0 = .ok (.aload_n 0, 1) := by decide +kernel
theorem dX12_condition_1 : decode cX12_condition 1 = .ok (.invokevirtual 220, 3) := by decide +kernel
theorem dX12_condition_4 : decode cX12_condition 4 = .ok (.aload_n 0, 1) := by decide +kernel
theorem dX12_condition_5 : decode cX12_condition 5 = .ok (.invokevirtual 229, 3) := by decide +kernel
theorem dX12_condition_8 : decode cX12_condition 8 = .ok (.aload_n 0, 1) := by decide +kernel
theorem dX12_condition_9 : decode cX12_condition 9 = .ok (.invokevirtual 232, 3) := by decide +kernel
theorem dX12_condition_12 : decode cX12_condition 12 = .ok (.return_, 1) := by decide +kernel
theorem dX12_clause_0 : decode cX12_clause 0 = .ok (.bipush 90, 2) := by decide +kernel
theorem dX12_clause_2 : decode cX12_clause 2 = .ok (.aload_n 0, 1) := by decide +kernel
theorem dX12_clause_3 : decode cX12_clause 3 = .ok (.getfield 174, 3) := by decide +kernel
theorem dX12_clause_6 : decode cX12_clause 6 = .ok (.imul, 1) := by decide +kernel
theorem dX12_clause_7 : decode cX12_clause 7 = .ok (.aload_n 0, 1) := by decide +kernel
theorem dX12_clause_8 : decode cX12_clause 8 = .ok (.getfield 22, 3) := by decide +kernel
theorem dX12_clause_11 : decode cX12_clause 11 = .ok (.aload_n 0, 1) := by decide +kernel
theorem dX12_clause_12 : decode cX12_clause 12 = .ok (.getfield 174, 3) := by decide +kernel
theorem dX12_clause_15 : decode cX12_clause 15 = .ok (.iaload, 1) := by decide +kernel
theorem dX12_clause_16 : decode cX12_clause 16 = .ok (.iadd, 1) := by decide +kernel
theorem dX12_clause_17 : decode cX12_clause 17 = .ok (.istore_n 1, 1) := by decide +kernel
theorem dX12_clause_18 : decode cX12_clause 18 = .ok (.aload_n 0, 1) := by decide +kernel
theorem dX12_clause_19 : decode cX12_clause 19 = .ok (.getfield 171, 3) := by decide +kernel
theorem dX12_clause_22 : decode cX12_clause 22 = .ok (.iconst (-1), 1) := by decide +kernel
theorem dX12_clause_23 : decode cX12_clause 23 = .ok (.if_icmp .ne 16, 3) := by decide +kernel
theorem dX12_clause_26 : decode cX12_clause 26 = .ok (.aload_n 0, 1) := by decide +kernel
theorem dX12_clause_27 : decode cX12_clause 27 = .ok (.invokevirtual 183, 3) := by decide +kernel
theorem dX12_clause_30 : decode cX12_clause 30 = .ok (.bipush 121, 2) := by decide +kernel
theorem dX12_clause_32 : decode cX12_clause 32 = .ok (.if_icmp .eq 7, 3) := by decide +kernel
theorem dX12_clause_35 : decode cX12_clause 35 = .ok (.aload_n 0, 1) := by decide +kernel
theorem dX12_clause_36 : decode cX12_clause 36 = .ok (.invokevirtual 180, 3) := by decide +kernel
theorem dX12_clause_39 : decode cX12_clause 39 = .ok (.aload_n 0, 1) := by decide +kernel
theorem dX12_clause_40 : decode cX12_clause 40 = .ok (.dup, 1) := by decide +kernel
theorem dX12_clause_41 : decode cX12_clause 41 = .ok (.getfield 164, 3) := by decide +kernel
theorem dX12_clause_44 : decode cX12_clause 44 = .ok (.iconst 1, 1) := by decide +kernel
theorem dX12_clause_45 : decode cX12_clause 45 = .ok (.iadd, 1) := by decide +kernel
theorem dX12_clause_46 : decode cX12_clause 46 = .ok (.putfield 164, 3) := by decide +kernel
theorem dX12_clause_49 : decode cX12_clause 49 = .ok (.aload_n 0, 1) := by decide +kernel
theorem dX12_clause_50 : decode cX12_clause 50 = .ok (.getfield 171, 3) := by decide +kernel
theorem dX12_clause_53 : decode cX12_clause 53 = .ok (.iconst (-1), 1) := by decide +kernel
theorem dX12_clause_54 : decode cX12_clause 54 = .ok (.if_icmp .ne 16, 3) := by decide +kernel
theorem dX12_clause_57 : decode cX12_clause 57 = .ok (.aload_n 0, 1) := by decide +kernel
theorem dX12_clause_58 : decode cX12_clause 58 = .ok (.invokevirtual 183, 3) := by decide +kernel
theorem dX12_clause_61 : decode cX12_clause 61 = .ok (.bipush 58, 2) := by decide +kernel
theorem dX12_clause_63 : decode cX12_clause 63 = .ok (.if_icmp .eq 7, 3) := by decide +kernel
theorem dX12_clause_66 : decode cX12_clause 66 = .ok (.aload_n 0, 1) := by decide +kernel
theorem dX12_clause_67 : decode cX12_clause 67 = .ok (.invokevirtual 180, 3) := by decide +kernel
theorem dX12_clause_70 : decode cX12_clause 70 = .ok (.aload_n 0, 1) := by decide +kernel
theorem dX12_clause_71 : decode cX12_clause 71 = .ok (.dup, 1) := by decide +kernel
theorem dX12_clause_72 : decode cX12_clause 72 = .ok (.getfield 164, 3) := by decide +kernel
theorem dX12_clause_75 : decode cX12_clause 75 = .ok (.iconst 1, 1) := by decide +kernel
theorem dX12_clause_76 : decode cX12_clause 76 = .ok (.iadd, 1) := by decide +kernel
theorem dX12_clause_77 : decode cX12_clause 77 = .ok (.putfield 164, 3) := by decide +kernel
theorem dX12_clause_80 : decode cX12_clause 80 = .ok (.aload_n 0, 1) := by decide +kernel
theorem dX12_clause_81 : decode cX12_clause 81 = .ok (.getfield 171, 3) := by decide +kernel
theorem dX12_clause_84 : decode cX12_clause 84 = .ok (.iconst (-1), 1) := by decide +kernel
theorem dX12_clause_85 : decode cX12_clause 85 = .ok (.if_icmp .eq 4, 3) := by decide +kernel
theorem dX12_clause_88 : decode cX12_clause 88 = .ok (.return_, 1) := by decide +kernel
theorem dX12_clause_89 : decode cX12_clause 89 = .ok (.aload_n 0, 1) := by decide +kernel
theorem dX12_clause_90 : decode cX12_clause 90 = .ok (.getfield 25, 3) := by decide +kernel
theorem dX12_clause_93 : decode cX12_clause 93 = .ok (.iload_n 1, 1) := by decide +kernel
theorem dX12_clause_94 : decode cX12_clause 94 = .ok (.aload_n 0, 1) := by decide +kernel
theorem dX12_clause_95 : decode cX12_clause 95 = .ok (.getfield 19, 3) := by decide +kernel
theorem dX12_clause_98 : decode cX12_clause 98 = .ok (.aload_n 0, 1) := by decide +kernel
theorem dX12_clause_99 : decode cX12_clause 99 = .ok (.getfield 174, 3) := by decide +kernel
theorem dX12_clause_102 : decode cX12_clause 102 = .ok (.iaload, 1) := by decide +kernel
theorem dX12_clause_103 : decode cX12_clause 103 = .ok (.iastore, 1) := by decide +kernel
theorem dX12_clause_104 : decode cX12_clause 104 = .ok (.aload_n 0, 1) := by decide +kernel
theorem dX12_clause_105 : decode cX12_clause 105 = .ok (.invokevirtual 183, 3) := by decide +kernel
theorem dX12_clause_108 : decode cX12_clause 108 = .ok (.bipush 33, 2) := by decide +kernel
theorem dX12_clause_110 : decode cX12_clause 110 = .ok (.if_icmp .eq 12, 3) := by decide +kernel
theorem dX12_clause_113 : decode cX12_clause 113 = .ok (.aload_n 0, 1) := by decide +kernel
theorem dX12_clause_114 : decode cX12_clause 114 = .ok (.invokevirtual 183, 3) := by decide +kernel
theorem dX12_clause_117 : decode cX12_clause 117 = .ok (.bipush 40, 2) := by decide +kernel
theorem dX12_clause_119 : decode cX12_clause 119 = .ok (.if_icmp .ne 7, 3) := by decide +kernel
theorem dX12_clause_122 : decode cX12_clause 122 = .ok (.iconst 1, 1) := by decide +kernel
theorem dX12_clause_123 : decode cX12_clause 123 = .ok (.goto 4, 3) := by decide +kernel
theorem dX12_clause_126 : decode cX12_clause 126 = .ok (.iconst 0, 1) := by decide +kernel
theorem dX12_clause_127 : decode cX12_clause 127 = .ok (.istore_n 2, 1) := by decide +kernel
theorem dX12_clause_128 : decode cX12_clause 128 = .ok (.iload_n 2, 1) := by decide +kernel
theorem dX12_clause_129 : decode cX12_clause 129 = .ok (.ifCond .eq 10, 3) := by decide +kernel
theorem dX12_clause_132 : decode cX12_clause 132 = .ok (.aload_n 0, 1) := by decide +kernel
theorem dX12_clause_133 : decode cX12_clause 133 = .ok (.invokevirtual 223, 3) := by decide +kernel
theorem dX12_clause_136 : decode cX12_clause 136 = .ok (.goto 47, 3) := by decide +kernel
theorem dX12_clause_139 : decode cX12_clause 139 = .ok (.aload_n 0, 1) := by decide +kernel
theorem dX12_clause_140 : decode cX12_clause 140 = .ok (.invokevirtual 204, 3) := by decide +kernel
theorem dX12_clause_143 : decode cX12_clause 143 = .ok (.aload_n 0, 1) := by decide +kernel
theorem dX12_clause_144 : decode cX12_clause 144 = .ok (.getfield 171, 3) := by decide +kernel
theorem dX12_clause_147 : decode cX12_clause 147 = .ok (.iconst (-1), 1) := by decide +kernel
theorem dX12_clause_148 : decode cX12_clause 148 = .ok (.if_icmp .ne 17, 3) := by decide +kernel
theorem dX12_clause_151 : decode cX12_clause 151 = .ok (.aload_n 0, 1) := by decide +kernel
theorem dX12_clause_152 : decode cX12_clause 152 = .ok (.invokevirtual 183, 3) := by decide +kernel
theorem dX12_clause_155 : decode cX12_clause 155 = .ok (.invokestatic 217, 3) := by decide +kernel
theorem dX12_clause_158 : decode cX12_clause 158 = .ok (.ifCond .eq 7, 3) := by decide +kernel
theorem dX12_clause_161 : decode cX12_clause 161 = .ok (.iconst 1, 1) := by decide +kernel
theorem dX12_clause_162 : decode cX12_clause 162 = .ok (.goto 4, 3) := by decide +kernel
theorem dX12_clause_165 : decode cX12_clause 165 = .ok (.iconst 0, 1) := by decide +kernel
theorem dX12_clause_166 : decode cX12_clause 166 = .ok (.istore_n 2, 1) := by decide +kernel
theorem dX12_clause_167 : decode cX12_clause 167 = .ok (.iload_n 2, 1) := by decide +kernel
theorem dX12_clause_168 : decode cX12_clause 168 = .ok (.ifCond .eq 15, 3) := by decide +kernel
theorem dX12_clause_171 : decode cX12_clause 171 = .ok (.aload_n 0, 1) := by decide +kernel
theorem dX12_clause_172 : decode cX12_clause 172 = .ok (.invokevirtual 226, 3) := by decide +kernel
theorem dX12_clause_175 : decode cX12_clause 175 = .ok (.aload_n 0, 1) := by decide +kernel
theorem dX12_clause_176 : decode cX12_clause 176 = .ok (.invokevirtual 229, 3) := by decide +kernel
theorem dX12_clause_179 : decode cX12_clause 179 = .ok (.aload_n 0, 1) := by decide +kernel
theorem dX12_clause_180 : decode cX12_clause 180 = .ok (.invokevirtual 232, 3) := by decide +kernel
theorem dX12_clause_183 : decode cX12_clause 183 = .ok (.aload_n 0, 1) := by decide +kernel
theorem dX12_clause_184 : decode cX12_clause 184 = .ok (.getfield 28, 3) := by decide +kernel
theorem dX12_clause_187 : decode cX12_clause 187 = .ok (.iload_n 1, 1) := by decide +kernel
theorem dX12_clause_188 : decode cX12_clause 188 = .ok (.aload_n 0, 1) := by decide +kernel
theorem dX12_clause_189 : decode cX12_clause 189 = .ok (.getfield 25, 3) := by decide +kernel
theorem dX12_clause_192 : decode cX12_clause 192 = .ok (.iload_n 1, 1) := by decide +kernel
theorem dX12_clause_193 : decode cX12_clause 193 = .ok (.iaload, 1) := by decide +kernel
theorem dX12_clause_194 : decode cX12_clause 194 = .ok (.iastore, 1) := by decide +kernel
theorem dX12_clause_195 : decode cX12_clause 195 = .ok (.iload_n 2, 1) := by decide +kernel
theorem dX12_clause_196 : decode cX12_clause 196 = .ok (.ifCond .eq 54, 3) := by decide +kernel
theorem dX12_clause_199 : decode cX12_clause 199 = .ok (.aload_n 0, 1) := by decide +kernel
theorem dX12_clause_200 : decode cX12_clause 200 = .ok (.getfield 171, 3) := by decide +kernel
theorem dX12_clause_203 : decode cX12_clause 203 = .ok (.iconst (-1), 1) := by decide +kernel
theorem dX12_clause_204 : decode cX12_clause 204 = .ok (.if_icmp .ne 46, 3) := by decide +kernel
theorem dX12_clause_207 : decode cX12_clause 207 = .ok (.aload_n 0, 1) := by decide +kernel
theorem dX12_clause_208 : decode cX12_clause 208 = .ok (.invokevirtual 183, 3) := by decide +kernel
theorem dX12_clause_211 : decode cX12_clause 211 = .ok (.bipush 63, 2) := by decide +kernel
theorem dX12_clause_213 : decode cX12_clause 213 = .ok (.if_icmp .eq 8, 3) := by decide +kernel
theorem dX12_clause_216 : decode cX12_clause 216 = .ok (.aload_n 0, 1) := by decide +kernel
theorem dX12_clause_217 : decode cX12_clause 217 = .ok (.invokevirtual 180, 3) := by decide +kernel
theorem dX12_clause_220 : decode cX12_clause 220 = .ok (.return_, 1) := by decide +kernel
theorem dX12_clause_221 : decode cX12_clause 221 = .ok (.aload_n 0, 1) := by decide +kernel
theorem dX12_clause_222 : decode cX12_clause 222 = .ok (.dup, 1) := by decide +kernel
theorem dX12_clause_223 : decode cX12_clause 223 = .ok (.getfield 164, 3) := by decide +kernel
theorem dX12_clause_226 : decode cX12_clause 226 = .ok (.iconst 1, 1) := by decide +kernel
theorem dX12_clause_227 : decode cX12_clause 227 = .ok (.iadd, 1) := by decide +kernel
theorem dX12_clause_228 : decode cX12_clause 228 = .ok (.putfield 164, 3) := by decide +kernel
theorem dX12_clause_231 : decode cX12_clause 231 = .ok (.aload_n 0, 1) := by decide +kernel
theorem dX12_clause_232 : decode cX12_clause 232 = .ok (.getfield 28, 3) := by decide +kernel
theorem dX12_clause_235 : decode cX12_clause 235 = .ok (.iload_n 1, 1) := by decide +kernel
theorem dX12_clause_236 : decode cX12_clause 236 = .ok (.aload_n 0, 1) := by decide +kernel
theorem dX12_clause_237 : decode cX12_clause 237 = .ok (.getfield 19, 3) := by decide +kernel
theorem dX12_clause_240 : decode cX12_clause 240 = .ok (.aload_n 0, 1) := by decide +kernel
theorem dX12_clause_241 : decode cX12_clause 241 = .ok (.getfield 174, 3) := by decide +kernel
theorem dX12_clause_244 : decode cX12_clause 244 = .ok (.iaload, 1) := by decide +kernel
theorem dX12_clause_245 : decode cX12_clause 245 = .ok (.iastore, 1) := by decide +kernel
theorem dX12_clause_246 : decode cX12_clause 246 = .ok (.aload_n 0, 1) := by decide +kernel
theorem dX12_clause_247 : decode cX12_clause 247 = .ok (.invokevirtual 204, 3) := by decide +kernel
theorem dX12_clause_250 : decode cX12_clause 250 = .ok (.aload_n 0, 1) := by decide +kernel
theorem dX12_clause_251 : decode cX12_clause 251 = .ok (.getfield 31, 3) := by decide +kernel
theorem dX12_clause_254 : decode cX12_clause 254 = .ok (.iload_n 1, 1) := by decide +kernel
theorem dX12_clause_255 : decode cX12_clause 255 = .ok (.aload_n 0, 1) := by decide +kernel
theorem dX12_clause_256 : decode cX12_clause 256 = .ok (.getfield 19, 3) := by decide +kernel
theorem dX12_clause_259 : decode cX12_clause 259 = .ok (.aload_n 0, 1) := by decide +kernel
theorem dX12_clause_260 : decode cX12_clause 260 = .ok (.getfield 174, 3) := by decide +kernel
theorem dX12_clause_263 : decode cX12_clause 263 = .ok (.iaload, 1) := by decide +kernel
theorem dX12_clause_264 : decode cX12_clause 264 = .ok (.iastore, 1) := by decide +kernel
theorem dX12_clause_265 : decode cX12_clause 265 = .ok (.aload_n 0, 1) := by decide +kernel
theorem dX12_clause_266 : decode cX12_clause 266 = .ok (.getfield 22, 3) := by decide +kernel
theorem dX12_clause_269 : decode cX12_clause 269 = .ok (.aload_n 0, 1) := by decide +kernel
theorem dX12_clause_270 : decode cX12_clause 270 = .ok (.getfield 174, 3) := by decide +kernel
theorem dX12_clause_273 : decode cX12_clause 273 = .ok (.dup2, 1) := by decide +kernel
theorem dX12_clause_274 : decode cX12_clause 274 = .ok (.iaload, 1) := by decide +kernel
theorem dX12_clause_275 : decode cX12_clause 275 = .ok (.iconst 1, 1) := by decide +kernel
theorem dX12_clause_276 : decode cX12_clause 276 = .ok (.iadd, 1) := by decide +kernel
theorem dX12_clause_277 : decode cX12_clause 277 = .ok (.iastore, 1) := by decide +kernel
theorem dX12_clause_278 : decode cX12_clause 278 = .ok (.return_, 1) := by decide +kernel
theorem dX12_open_0 : decode cX12_open 0 = .ok (.aload_n 0, 1) := by decide +kernel
theorem dX12_open_1 : decode cX12_open 1 = .ok (.iload_n 1, 1) := by decide +kernel
theorem dX12_open_2 : decode cX12_open 2 = .ok (.putfield 174, 3) := by decide +kernel
theorem dX12_open_5 : decode cX12_open 5 = .ok (.aload_n 0, 1) := by decide +kernel
theorem dX12_open_6 : decode cX12_open 6 = .ok (.iconst 0, 1) := by decide +kernel
theorem dX12_open_7 : decode cX12_open 7 = .ok (.putfield 164, 3) := by decide +kernel
theorem dX12_open_10 : decode cX12_open 10 = .ok (.aload_n 0, 1) := by decide +kernel
theorem dX12_open_11 : decode cX12_open 11 = .ok (.iconst (-1), 1) := by decide +kernel
theorem dX12_open_12 : decode cX12_open 12 = .ok (.putfield 171, 3) := by decide +kernel
theorem dX12_open_15 : decode cX12_open 15 = .ok (.aload_n 0, 1) := by decide +kernel
theorem dX12_open_16 : decode cX12_open 16 = .ok (.iconst 0, 1) := by decide +kernel
theorem dX12_open_17 : decode cX12_open 17 = .ok (.putfield 177, 3) := by decide +kernel
theorem dX12_open_20 : decode cX12_open 20 = .ok (.aload_n 0, 1) := by decide +kernel
theorem dX12_open_21 : decode cX12_open 21 = .ok (.getfield 19, 3) := by decide +kernel
theorem dX12_open_24 : decode cX12_open 24 = .ok (.iload_n 1, 1) := by decide +kernel
theorem dX12_open_25 : decode cX12_open 25 = .ok (.iconst 0, 1) := by decide +kernel
theorem dX12_open_26 : decode cX12_open 26 = .ok (.iastore, 1) := by decide +kernel
theorem dX12_open_27 : decode cX12_open 27 = .ok (.aload_n 0, 1) := by decide +kernel
theorem dX12_open_28 : decode cX12_open 28 = .ok (.getfield 22, 3) := by decide +kernel
theorem dX12_open_31 : decode cX12_open 31 = .ok (.iload_n 1, 1) := by decide +kernel
theorem dX12_open_32 : decode cX12_open 32 = .ok (.iconst 0, 1) := by decide +kernel
theorem dX12_open_33 : decode cX12_open 33 = .ok (.iastore, 1) := by decide +kernel
theorem dX12_open_34 : decode cX12_open 34 = .ok (.return_, 1) := by decide +kernel
theorem dX12_atEnd_0 : decode cX12_atEnd 0 = .ok (.aload_n 0, 1) := by decide +kernel
theorem dX12_atEnd_1 : decode cX12_atEnd 1 = .ok (.getfield 171, 3) := by decide +kernel
theorem dX12_atEnd_4 : decode cX12_atEnd 4 = .ok (.iconst (-1), 1) := by decide +kernel
theorem dX12_atEnd_5 : decode cX12_atEnd 5 = .ok (.if_icmp .ne 15, 3) := by decide +kernel
theorem dX12_atEnd_8 : decode cX12_atEnd 8 = .ok (.aload_n 0, 1) := by decide +kernel
theorem dX12_atEnd_9 : decode cX12_atEnd 9 = .ok (.invokevirtual 183, 3) := by decide +kernel
theorem dX12_atEnd_12 : decode cX12_atEnd 12 = .ok (.iconst (-1), 1) := by decide +kernel
theorem dX12_atEnd_13 : decode cX12_atEnd 13 = .ok (.if_icmp .eq 7, 3) := by decide +kernel
theorem dX12_atEnd_16 : decode cX12_atEnd 16 = .ok (.aload_n 0, 1) := by decide +kernel
theorem dX12_atEnd_17 : decode cX12_atEnd 17 = .ok (.invokevirtual 180, 3) := by decide +kernel
theorem dX12_atEnd_20 : decode cX12_atEnd 20 = .ok (.aload_n 0, 1) := by decide +kernel
theorem dX12_atEnd_21 : decode cX12_atEnd 21 = .ok (.getfield 171, 3) := by decide +kernel
theorem dX12_atEnd_24 : decode cX12_atEnd 24 = .ok (.ireturn, 1) := by decide +kernel
theorem dX12_readLaw_0 : decode cX12_readLaw 0 = .ok (.aload_n 0, 1) := by decide +kernel
theorem dX12_readLaw_1 : decode cX12_readLaw 1 = .ok (.iload_n 1, 1) := by decide +kernel
theorem dX12_readLaw_2 : decode cX12_readLaw 2 = .ok (.invokevirtual 235, 3) := by decide +kernel
theorem dX12_readLaw_5 : decode cX12_readLaw 5 = .ok (.aload_n 0, 1) := by decide +kernel
theorem dX12_readLaw_6 : decode cX12_readLaw 6 = .ok (.invokevirtual 238, 3) := by decide +kernel
theorem dX12_readLaw_9 : decode cX12_readLaw 9 = .ok (.aload_n 0, 1) := by decide +kernel
theorem dX12_readLaw_10 : decode cX12_readLaw 10 = .ok (.getfield 171, 3) := by decide +kernel
theorem dX12_readLaw_13 : decode cX12_readLaw 13 = .ok (.iconst (-1), 1) := by decide +kernel
theorem dX12_readLaw_14 : decode cX12_readLaw 14 = .ok (.if_icmp .ne 29, 3) := by decide +kernel
theorem dX12_readLaw_17 : decode cX12_readLaw 17 = .ok (.aload_n 0, 1) := by decide +kernel
theorem dX12_readLaw_18 : decode cX12_readLaw 18 = .ok (.invokevirtual 183, 3) := by decide +kernel
theorem dX12_readLaw_21 : decode cX12_readLaw 21 = .ok (.bipush 59, 2) := by decide +kernel
theorem dX12_readLaw_23 : decode cX12_readLaw 23 = .ok (.if_icmp .ne 20, 3) := by decide +kernel
theorem dX12_readLaw_26 : decode cX12_readLaw 26 = .ok (.aload_n 0, 1) := by decide +kernel
theorem dX12_readLaw_27 : decode cX12_readLaw 27 = .ok (.dup, 1) := by decide +kernel
theorem dX12_readLaw_28 : decode cX12_readLaw 28 = .ok (.getfield 164, 3) := by decide +kernel
theorem dX12_readLaw_31 : decode cX12_readLaw 31 = .ok (.iconst 1, 1) := by decide +kernel
theorem dX12_readLaw_32 : decode cX12_readLaw 32 = .ok (.iadd, 1) := by decide +kernel
theorem dX12_readLaw_33 : decode cX12_readLaw 33 = .ok (.putfield 164, 3) := by decide +kernel
theorem dX12_readLaw_36 : decode cX12_readLaw 36 = .ok (.aload_n 0, 1) := by decide +kernel
theorem dX12_readLaw_37 : decode cX12_readLaw 37 = .ok (.invokevirtual 238, 3) := by decide +kernel
theorem dX12_readLaw_40 : decode cX12_readLaw 40 = .ok (.goto (-31), 3) := by decide +kernel
theorem dX12_readLaw_43 : decode cX12_readLaw 43 = .ok (.aload_n 0, 1) := by decide +kernel
theorem dX12_readLaw_44 : decode cX12_readLaw 44 = .ok (.invokevirtual 241, 3) := by decide +kernel
theorem dX12_readLaw_47 : decode cX12_readLaw 47 = .ok (.ireturn, 1) := by decide +kernel
theorem dX12_bounded_0 : decode cX12_bounded 0 = .ok (.ldc2_w 244, 3) := by decide +kernel
theorem dX12_bounded_3 : decode cX12_bounded 3 = .ok (.ldc2_w 246, 3) := by decide +kernel
theorem dX12_bounded_6 : decode cX12_bounded 6 = .ok (.lload_n 0, 1) := by decide +kernel
theorem dX12_bounded_7 : decode cX12_bounded 7 = .ok (.invokestatic 248, 3) := by decide +kernel
theorem dX12_bounded_10 : decode cX12_bounded 10 = .ok (.invokestatic 254, 3) := by decide +kernel
theorem dX12_bounded_13 : decode cX12_bounded 13 = .ok (.l2i, 1) := by decide +kernel
theorem dX12_bounded_14 : decode cX12_bounded 14 = .ok (.ireturn, 1) := by decide +kernel
theorem dX12_worked_0 : decode cX12_worked 0 = .ok (.iload_n 0, 1) := by decide +kernel
theorem dX12_worked_1 : decode cX12_worked 1 = .ok (.tableswitch 143 2 10 #[51, 58, 65, 72, 89, 101, 113, 143, 125], 51) := by decide +kernel
theorem dX12_worked_52 : decode cX12_worked 52 = .ok (.lload_n 1, 1) := by decide +kernel
theorem dX12_worked_53 : decode cX12_worked 53 = .ok (.lload_n 3, 1) := by decide +kernel
theorem dX12_worked_54 : decode cX12_worked 54 = .ok (.ladd, 1) := by decide +kernel
theorem dX12_worked_55 : decode cX12_worked 55 = .ok (.invokestatic 257, 3) := by decide +kernel
theorem dX12_worked_58 : decode cX12_worked 58 = .ok (.ireturn, 1) := by decide +kernel
theorem dX12_worked_59 : decode cX12_worked 59 = .ok (.lload_n 1, 1) := by decide +kernel
theorem dX12_worked_60 : decode cX12_worked 60 = .ok (.lload_n 3, 1) := by decide +kernel
theorem dX12_worked_61 : decode cX12_worked 61 = .ok (.lsub, 1) := by decide +kernel
theorem dX12_worked_62 : decode cX12_worked 62 = .ok (.invokestatic 257, 3) := by decide +kernel
theorem dX12_worked_65 : decode cX12_worked 65 = .ok (.ireturn, 1) := by decide +kernel
theorem dX12_worked_66 : decode cX12_worked 66 = .ok (.lload_n 1, 1) := by decide +kernel
theorem dX12_worked_67 : decode cX12_worked 67 = .ok (.lload_n 3, 1) := by decide +kernel
theorem dX12_worked_68 : decode cX12_worked 68 = .ok (.lmul, 1) := by decide +kernel
theorem dX12_worked_69 : decode cX12_worked 69 = .ok (.invokestatic 257, 3) := by decide +kernel
theorem dX12_worked_72 : decode cX12_worked 72 = .ok (.ireturn, 1) := by decide +kernel
theorem dX12_worked_73 : decode cX12_worked 73 = .ok (.lload_n 3, 1) := by decide +kernel
theorem dX12_worked_74 : decode cX12_worked 74 = .ok (.lconst 0, 1) := by decide +kernel
theorem dX12_worked_75 : decode cX12_worked 75 = .ok (.lcmp, 1) := by decide +kernel
theorem dX12_worked_76 : decode cX12_worked 76 = .ok (.ifCond .ne 7, 3) := by decide +kernel
theorem dX12_worked_79 : decode cX12_worked 79 = .ok (.iconst 0, 1) := by decide +kernel
theorem dX12_worked_80 : decode cX12_worked 80 = .ok (.goto 9, 3) := by decide +kernel
theorem dX12_worked_83 : decode cX12_worked 83 = .ok (.lload_n 1, 1) := by decide +kernel
theorem dX12_worked_84 : decode cX12_worked 84 = .ok (.lload_n 3, 1) := by decide +kernel
theorem dX12_worked_85 : decode cX12_worked 85 = .ok (.ldiv, 1) := by decide +kernel
theorem dX12_worked_86 : decode cX12_worked 86 = .ok (.invokestatic 257, 3) := by decide +kernel
theorem dX12_worked_89 : decode cX12_worked 89 = .ok (.ireturn, 1) := by decide +kernel
theorem dX12_worked_90 : decode cX12_worked 90 = .ok (.lload_n 1, 1) := by decide +kernel
theorem dX12_worked_91 : decode cX12_worked 91 = .ok (.lload_n 3, 1) := by decide +kernel
theorem dX12_worked_92 : decode cX12_worked 92 = .ok (.lcmp, 1) := by decide +kernel
theorem dX12_worked_93 : decode cX12_worked 93 = .ok (.ifCond .ne 7, 3) := by decide +kernel
theorem dX12_worked_96 : decode cX12_worked 96 = .ok (.iconst 1, 1) := by decide +kernel
theorem dX12_worked_97 : decode cX12_worked 97 = .ok (.goto 4, 3) := by decide +kernel
theorem dX12_worked_100 : decode cX12_worked 100 = .ok (.iconst 0, 1) := by decide +kernel
theorem dX12_worked_101 : decode cX12_worked 101 = .ok (.ireturn, 1) := by decide +kernel
theorem dX12_worked_102 : decode cX12_worked 102 = .ok (.lload_n 1, 1) := by decide +kernel
theorem dX12_worked_103 : decode cX12_worked 103 = .ok (.lload_n 3, 1) := by decide +kernel
theorem dX12_worked_104 : decode cX12_worked 104 = .ok (.lcmp, 1) := by decide +kernel
theorem dX12_worked_105 : decode cX12_worked 105 = .ok (.ifCond .ge 7, 3) := by decide +kernel
theorem dX12_worked_108 : decode cX12_worked 108 = .ok (.iconst 1, 1) := by decide +kernel
theorem dX12_worked_109 : decode cX12_worked 109 = .ok (.goto 4, 3) := by decide +kernel
theorem dX12_worked_112 : decode cX12_worked 112 = .ok (.iconst 0, 1) := by decide +kernel
theorem dX12_worked_113 : decode cX12_worked 113 = .ok (.ireturn, 1) := by decide +kernel
theorem dX12_worked_114 : decode cX12_worked 114 = .ok (.lload_n 1, 1) := by decide +kernel
theorem dX12_worked_115 : decode cX12_worked 115 = .ok (.lload_n 3, 1) := by decide +kernel
theorem dX12_worked_116 : decode cX12_worked 116 = .ok (.lcmp, 1) := by decide +kernel
theorem dX12_worked_117 : decode cX12_worked 117 = .ok (.ifCond .le 7, 3) := by decide +kernel
theorem dX12_worked_120 : decode cX12_worked 120 = .ok (.iconst 1, 1) := by decide +kernel
theorem dX12_worked_121 : decode cX12_worked 121 = .ok (.goto 4, 3) := by decide +kernel
theorem dX12_worked_124 : decode cX12_worked 124 = .ok (.iconst 0, 1) := by decide +kernel
theorem dX12_worked_125 : decode cX12_worked 125 = .ok (.ireturn, 1) := by decide +kernel
theorem dX12_worked_126 : decode cX12_worked 126 = .ok (.lload_n 1, 1) := by decide +kernel
theorem dX12_worked_127 : decode cX12_worked 127 = .ok (.lconst 0, 1) := by decide +kernel
theorem dX12_worked_128 : decode cX12_worked 128 = .ok (.lcmp, 1) := by decide +kernel
theorem dX12_worked_129 : decode cX12_worked 129 = .ok (.ifCond .eq 13, 3) := by decide +kernel
theorem dX12_worked_132 : decode cX12_worked 132 = .ok (.lload_n 3, 1) := by decide +kernel
theorem dX12_worked_133 : decode cX12_worked 133 = .ok (.lconst 0, 1) := by decide +kernel
theorem dX12_worked_134 : decode cX12_worked 134 = .ok (.lcmp, 1) := by decide +kernel
theorem dX12_worked_135 : decode cX12_worked 135 = .ok (.ifCond .eq 7, 3) := by decide +kernel
theorem dX12_worked_138 : decode cX12_worked 138 = .ok (.iconst 1, 1) := by decide +kernel
theorem dX12_worked_139 : decode cX12_worked 139 = .ok (.goto 4, 3) := by decide +kernel
theorem dX12_worked_142 : decode cX12_worked 142 = .ok (.iconst 0, 1) := by decide +kernel
theorem dX12_worked_143 : decode cX12_worked 143 = .ok (.ireturn, 1) := by decide +kernel
theorem dX12_worked_144 : decode cX12_worked 144 = .ok (.lload_n 1, 1) := by decide +kernel
theorem dX12_worked_145 : decode cX12_worked 145 = .ok (.lconst 0, 1) := by decide +kernel
theorem dX12_worked_146 : decode cX12_worked 146 = .ok (.lcmp, 1) := by decide +kernel
theorem dX12_worked_147 : decode cX12_worked 147 = .ok (.ifCond .ne 9, 3) := by decide +kernel
theorem dX12_worked_150 : decode cX12_worked 150 = .ok (.lload_n 3, 1) := by decide +kernel
theorem dX12_worked_151 : decode cX12_worked 151 = .ok (.lconst 0, 1) := by decide +kernel
theorem dX12_worked_152 : decode cX12_worked 152 = .ok (.lcmp, 1) := by decide +kernel
theorem dX12_worked_153 : decode cX12_worked 153 = .ok (.ifCond .eq 7, 3) := by decide +kernel
theorem dX12_worked_156 : decode cX12_worked 156 = .ok (.iconst 1, 1) := by decide +kernel
theorem dX12_worked_157 : decode cX12_worked 157 = .ok (.goto 4, 3) := by decide +kernel
theorem dX12_worked_160 : decode cX12_worked 160 = .ok (.iconst 0, 1) := by decide +kernel
theorem dX12_worked_161 : decode cX12_worked 161 = .ok (.ireturn, 1) := by decide +kernel
theorem dX12_workOut_0 : decode cX12_workOut 0 = .ok (.iconst 0, 1) := by decide +kernel
theorem dX12_workOut_1 : decode cX12_workOut 1 = .ok (.istore 4, 2) := by decide +kernel
theorem dX12_workOut_3 : decode cX12_workOut 3 = .ok (.sipush 340, 3) := by decide +kernel
theorem dX12_workOut_6 : decode cX12_workOut 6 = .ok (.iload_n 1, 1) := by decide +kernel
theorem dX12_workOut_7 : decode cX12_workOut 7 = .ok (.imul, 1) := by decide +kernel
theorem dX12_workOut_8 : decode cX12_workOut 8 = .ok (.iload_n 2, 1) := by decide +kernel
theorem dX12_workOut_9 : decode cX12_workOut 9 = .ok (.iadd, 1) := by decide +kernel
theorem dX12_workOut_10 : decode cX12_workOut 10 = .ok (.istore 5, 2) := by decide +kernel
theorem dX12_workOut_12 : decode cX12_workOut 12 = .ok (.iload 5, 2) := by decide +kernel
theorem dX12_workOut_14 : decode cX12_workOut 14 = .ok (.sipush 340, 3) := by decide +kernel
theorem dX12_workOut_17 : decode cX12_workOut 17 = .ok (.iload_n 1, 1) := by decide +kernel
theorem dX12_workOut_18 : decode cX12_workOut 18 = .ok (.imul, 1) := by decide +kernel
theorem dX12_workOut_19 : decode cX12_workOut 19 = .ok (.iload_n 3, 1) := by decide +kernel
theorem dX12_workOut_20 : decode cX12_workOut 20 = .ok (.iadd, 1) := by decide +kernel
theorem dX12_workOut_21 : decode cX12_workOut 21 = .ok (.if_icmp .ge 150, 3) := by decide +kernel
theorem dX12_workOut_24 : decode cX12_workOut 24 = .ok (.aload_n 0, 1) := by decide +kernel
theorem dX12_workOut_25 : decode cX12_workOut 25 = .ok (.getfield 13, 3) := by decide +kernel
theorem dX12_workOut_28 : decode cX12_workOut 28 = .ok (.iload 5, 2) := by decide +kernel
theorem dX12_workOut_30 : decode cX12_workOut 30 = .ok (.iaload, 1) := by decide +kernel
theorem dX12_workOut_31 : decode cX12_workOut 31 = .ok (.ifCond .eq 14, 3) := by decide +kernel
theorem dX12_workOut_34 : decode cX12_workOut 34 = .ok (.aload_n 0, 1) := by decide +kernel
theorem dX12_workOut_35 : decode cX12_workOut 35 = .ok (.getfield 13, 3) := by decide +kernel
theorem dX12_workOut_38 : decode cX12_workOut 38 = .ok (.iload 5, 2) := by decide +kernel
theorem dX12_workOut_40 : decode cX12_workOut 40 = .ok (.iaload, 1) := by decide +kernel
theorem dX12_workOut_41 : decode cX12_workOut 41 = .ok (.iconst 1, 1) := by decide +kernel
theorem dX12_workOut_42 : decode cX12_workOut 42 = .ok (.if_icmp .ne 48, 3) := by decide +kernel
theorem dX12_workOut_45 : decode cX12_workOut 45 = .ok (.aload_n 0, 1) := by decide +kernel
theorem dX12_workOut_46 : decode cX12_workOut 46 = .ok (.getfield 37, 3) := by decide +kernel
theorem dX12_workOut_49 : decode cX12_workOut 49 = .ok (.iload 4, 2) := by decide +kernel
theorem dX12_workOut_51 : decode cX12_workOut 51 = .ok (.aload_n 0, 1) := by decide +kernel
theorem dX12_workOut_52 : decode cX12_workOut 52 = .ok (.getfield 13, 3) := by decide +kernel
theorem dX12_workOut_55 : decode cX12_workOut 55 = .ok (.iload 5, 2) := by decide +kernel
theorem dX12_workOut_57 : decode cX12_workOut 57 = .ok (.iaload, 1) := by decide +kernel
theorem dX12_workOut_58 : decode cX12_workOut 58 = .ok (.ifCond .ne 13, 3) := by decide +kernel
theorem dX12_workOut_61 : decode cX12_workOut 61 = .ok (.aload_n 0, 1) := by decide +kernel
theorem dX12_workOut_62 : decode cX12_workOut 62 = .ok (.getfield 16, 3) := by decide +kernel
theorem dX12_workOut_65 : decode cX12_workOut 65 = .ok (.iload 5, 2) := by decide +kernel
theorem dX12_workOut_67 : decode cX12_workOut 67 = .ok (.iaload, 1) := by decide +kernel
theorem dX12_workOut_68 : decode cX12_workOut 68 = .ok (.goto 15, 3) := by decide +kernel
theorem dX12_workOut_71 : decode cX12_workOut 71 = .ok (.aload_n 0, 1) := by decide +kernel
theorem dX12_workOut_72 : decode cX12_workOut 72 = .ok (.getfield 34, 3) := by decide +kernel
theorem dX12_workOut_75 : decode cX12_workOut 75 = .ok (.aload_n 0, 1) := by decide +kernel
theorem dX12_workOut_76 : decode cX12_workOut 76 = .ok (.getfield 16, 3) := by decide +kernel
theorem dX12_workOut_79 : decode cX12_workOut 79 = .ok (.iload 5, 2) := by decide +kernel
theorem dX12_workOut_81 : decode cX12_workOut 81 = .ok (.iaload, 1) := by decide +kernel
theorem dX12_workOut_82 : decode cX12_workOut 82 = .ok (.iaload, 1) := by decide +kernel
theorem dX12_workOut_83 : decode cX12_workOut 83 = .ok (.iastore, 1) := by decide +kernel
theorem dX12_workOut_84 : decode cX12_workOut 84 = .ok (.iinc 4 1, 3) := by decide +kernel
theorem dX12_workOut_87 : decode cX12_workOut 87 = .ok (.goto 78, 3) := by decide +kernel
theorem dX12_workOut_90 : decode cX12_workOut 90 = .ok (.aload_n 0, 1) := by decide +kernel
theorem dX12_workOut_91 : decode cX12_workOut 91 = .ok (.getfield 13, 3) := by decide +kernel
theorem dX12_workOut_94 : decode cX12_workOut 94 = .ok (.iload 5, 2) := by decide +kernel
theorem dX12_workOut_96 : decode cX12_workOut 96 = .ok (.iaload, 1) := by decide +kernel
theorem dX12_workOut_97 : decode cX12_workOut 97 = .ok (.bipush 9, 2) := by decide +kernel
theorem dX12_workOut_99 : decode cX12_workOut 99 = .ok (.if_icmp .ne 26, 3) := by decide +kernel
theorem dX12_workOut_102 : decode cX12_workOut 102 = .ok (.aload_n 0, 1) := by decide +kernel
theorem dX12_workOut_103 : decode cX12_workOut 103 = .ok (.getfield 37, 3) := by decide +kernel
theorem dX12_workOut_106 : decode cX12_workOut 106 = .ok (.iload 4, 2) := by decide +kernel
theorem dX12_workOut_108 : decode cX12_workOut 108 = .ok (.iconst 1, 1) := by decide +kernel
theorem dX12_workOut_109 : decode cX12_workOut 109 = .ok (.isub, 1) := by decide +kernel
theorem dX12_workOut_110 : decode cX12_workOut 110 = .ok (.iconst 1, 1) := by decide +kernel
theorem dX12_workOut_111 : decode cX12_workOut 111 = .ok (.aload_n 0, 1) := by decide +kernel
theorem dX12_workOut_112 : decode cX12_workOut 112 = .ok (.getfield 37, 3) := by decide +kernel
theorem dX12_workOut_115 : decode cX12_workOut 115 = .ok (.iload 4, 2) := by decide +kernel
theorem dX12_workOut_117 : decode cX12_workOut 117 = .ok (.iconst 1, 1) := by decide +kernel
theorem dX12_workOut_118 : decode cX12_workOut 118 = .ok (.isub, 1) := by decide +kernel
theorem dX12_workOut_119 : decode cX12_workOut 119 = .ok (.iaload, 1) := by decide +kernel
theorem dX12_workOut_120 : decode cX12_workOut 120 = .ok (.isub, 1) := by decide +kernel
theorem dX12_workOut_121 : decode cX12_workOut 121 = .ok (.iastore, 1) := by decide +kernel
theorem dX12_workOut_122 : decode cX12_workOut 122 = .ok (.goto 43, 3) := by decide +kernel
theorem dX12_workOut_125 : decode cX12_workOut 125 = .ok (.iinc 4 (-1), 3) := by decide +kernel
theorem dX12_workOut_128 : decode cX12_workOut 128 = .ok (.aload_n 0, 1) := by decide +kernel
theorem dX12_workOut_129 : decode cX12_workOut 129 = .ok (.getfield 37, 3) := by decide +kernel
theorem dX12_workOut_132 : decode cX12_workOut 132 = .ok (.iload 4, 2) := by decide +kernel
theorem dX12_workOut_134 : decode cX12_workOut 134 = .ok (.iconst 1, 1) := by decide +kernel
theorem dX12_workOut_135 : decode cX12_workOut 135 = .ok (.isub, 1) := by decide +kernel
theorem dX12_workOut_136 : decode cX12_workOut 136 = .ok (.aload_n 0, 1) := by decide +kernel
theorem dX12_workOut_137 : decode cX12_workOut 137 = .ok (.getfield 13, 3) := by decide +kernel
theorem dX12_workOut_140 : decode cX12_workOut 140 = .ok (.iload 5, 2) := by decide +kernel
theorem dX12_workOut_142 : decode cX12_workOut 142 = .ok (.iaload, 1) := by decide +kernel
theorem dX12_workOut_143 : decode cX12_workOut 143 = .ok (.aload_n 0, 1) := by decide +kernel
theorem dX12_workOut_144 : decode cX12_workOut 144 = .ok (.getfield 37, 3) := by decide +kernel
theorem dX12_workOut_147 : decode cX12_workOut 147 = .ok (.iload 4, 2) := by decide +kernel
theorem dX12_workOut_149 : decode cX12_workOut 149 = .ok (.iconst 1, 1) := by decide +kernel
theorem dX12_workOut_150 : decode cX12_workOut 150 = .ok (.isub, 1) := by decide +kernel
theorem dX12_workOut_151 : decode cX12_workOut 151 = .ok (.iaload, 1) := by decide +kernel
theorem dX12_workOut_152 : decode cX12_workOut 152 = .ok (.i2l, 1) := by decide +kernel
theorem dX12_workOut_153 : decode cX12_workOut 153 = .ok (.aload_n 0, 1) := by decide +kernel
theorem dX12_workOut_154 : decode cX12_workOut 154 = .ok (.getfield 37, 3) := by decide +kernel
theorem dX12_workOut_157 : decode cX12_workOut 157 = .ok (.iload 4, 2) := by decide +kernel
theorem dX12_workOut_159 : decode cX12_workOut 159 = .ok (.iaload, 1) := by decide +kernel
theorem dX12_workOut_160 : decode cX12_workOut 160 = .ok (.i2l, 1) := by decide +kernel
theorem dX12_workOut_161 : decode cX12_workOut 161 = .ok (.invokestatic 261, 3) := by decide +kernel
theorem dX12_workOut_164 : decode cX12_workOut 164 = .ok (.iastore, 1) := by decide +kernel
theorem dX12_workOut_165 : decode cX12_workOut 165 = .ok (.iinc 5 1, 3) := by decide +kernel
theorem dX12_workOut_168 : decode cX12_workOut 168 = .ok (.goto (-156), 3) := by decide +kernel
theorem dX12_workOut_171 : decode cX12_workOut 171 = .ok (.aload_n 0, 1) := by decide +kernel
theorem dX12_workOut_172 : decode cX12_workOut 172 = .ok (.getfield 37, 3) := by decide +kernel
theorem dX12_workOut_175 : decode cX12_workOut 175 = .ok (.iconst 0, 1) := by decide +kernel
theorem dX12_workOut_176 : decode cX12_workOut 176 = .ok (.iaload, 1) := by decide +kernel
theorem dX12_workOut_177 : decode cX12_workOut 177 = .ok (.ireturn, 1) := by decide +kernel
theorem dX12_worthOf_0 : decode cX12_worthOf 0 = .ok (.bipush 90, 2) := by decide +kernel
theorem dX12_worthOf_2 : decode cX12_worthOf 2 = .ok (.iload_n 1, 1) := by decide +kernel
theorem dX12_worthOf_3 : decode cX12_worthOf 3 = .ok (.imul, 1) := by decide +kernel
theorem dX12_worthOf_4 : decode cX12_worthOf 4 = .ok (.istore_n 2, 1) := by decide +kernel
theorem dX12_worthOf_5 : decode cX12_worthOf 5 = .ok (.iload_n 2, 1) := by decide +kernel
theorem dX12_worthOf_6 : decode cX12_worthOf 6 = .ok (.bipush 90, 2) := by decide +kernel
theorem dX12_worthOf_8 : decode cX12_worthOf 8 = .ok (.iload_n 1, 1) := by decide +kernel
theorem dX12_worthOf_9 : decode cX12_worthOf 9 = .ok (.imul, 1) := by decide +kernel
theorem dX12_worthOf_10 : decode cX12_worthOf 10 = .ok (.aload_n 0, 1) := by decide +kernel
theorem dX12_worthOf_11 : decode cX12_worthOf 11 = .ok (.getfield 22, 3) := by decide +kernel
theorem dX12_worthOf_14 : decode cX12_worthOf 14 = .ok (.iload_n 1, 1) := by decide +kernel
theorem dX12_worthOf_15 : decode cX12_worthOf 15 = .ok (.iaload, 1) := by decide +kernel
theorem dX12_worthOf_16 : decode cX12_worthOf 16 = .ok (.iadd, 1) := by decide +kernel
theorem dX12_worthOf_17 : decode cX12_worthOf 17 = .ok (.if_icmp .ge 62, 3) := by decide +kernel
theorem dX12_worthOf_20 : decode cX12_worthOf 20 = .ok (.aload_n 0, 1) := by decide +kernel
theorem dX12_worthOf_21 : decode cX12_worthOf 21 = .ok (.getfield 25, 3) := by decide +kernel
theorem dX12_worthOf_24 : decode cX12_worthOf 24 = .ok (.iload_n 2, 1) := by decide +kernel
theorem dX12_worthOf_25 : decode cX12_worthOf 25 = .ok (.iaload, 1) := by decide +kernel
theorem dX12_worthOf_26 : decode cX12_worthOf 26 = .ok (.aload_n 0, 1) := by decide +kernel
theorem dX12_worthOf_27 : decode cX12_worthOf 27 = .ok (.getfield 28, 3) := by decide +kernel
theorem dX12_worthOf_30 : decode cX12_worthOf 30 = .ok (.iload_n 2, 1) := by decide +kernel
theorem dX12_worthOf_31 : decode cX12_worthOf 31 = .ok (.iaload, 1) := by decide +kernel
theorem dX12_worthOf_32 : decode cX12_worthOf 32 = .ok (.if_icmp .eq 23, 3) := by decide +kernel
theorem dX12_worthOf_35 : decode cX12_worthOf 35 = .ok (.aload_n 0, 1) := by decide +kernel
theorem dX12_worthOf_36 : decode cX12_worthOf 36 = .ok (.iload_n 1, 1) := by decide +kernel
theorem dX12_worthOf_37 : decode cX12_worthOf 37 = .ok (.aload_n 0, 1) := by decide +kernel
theorem dX12_worthOf_38 : decode cX12_worthOf 38 = .ok (.getfield 25, 3) := by decide +kernel
theorem dX12_worthOf_41 : decode cX12_worthOf 41 = .ok (.iload_n 2, 1) := by decide +kernel
theorem dX12_worthOf_42 : decode cX12_worthOf 42 = .ok (.iaload, 1) := by decide +kernel
theorem dX12_worthOf_43 : decode cX12_worthOf 43 = .ok (.aload_n 0, 1) := by decide +kernel
theorem dX12_worthOf_44 : decode cX12_worthOf 44 = .ok (.getfield 28, 3) := by decide +kernel
theorem dX12_worthOf_47 : decode cX12_worthOf 47 = .ok (.iload_n 2, 1) := by decide +kernel
theorem dX12_worthOf_48 : decode cX12_worthOf 48 = .ok (.iaload, 1) := by decide +kernel
theorem dX12_worthOf_49 : decode cX12_worthOf 49 = .ok (.invokevirtual 265, 3) := by decide +kernel
theorem dX12_worthOf_52 : decode cX12_worthOf 52 = .ok (.ifCond .eq 21, 3) := by decide +kernel
theorem dX12_worthOf_55 : decode cX12_worthOf 55 = .ok (.aload_n 0, 1) := by decide +kernel
theorem dX12_worthOf_56 : decode cX12_worthOf 56 = .ok (.iload_n 1, 1) := by decide +kernel
theorem dX12_worthOf_57 : decode cX12_worthOf 57 = .ok (.aload_n 0, 1) := by decide +kernel
theorem dX12_worthOf_58 : decode cX12_worthOf 58 = .ok (.getfield 28, 3) := by decide +kernel
theorem dX12_worthOf_61 : decode cX12_worthOf 61 = .ok (.iload_n 2, 1) := by decide +kernel
theorem dX12_worthOf_62 : decode cX12_worthOf 62 = .ok (.iaload, 1) := by decide +kernel
theorem dX12_worthOf_63 : decode cX12_worthOf 63 = .ok (.aload_n 0, 1) := by decide +kernel
theorem dX12_worthOf_64 : decode cX12_worthOf 64 = .ok (.getfield 31, 3) := by decide +kernel
theorem dX12_worthOf_67 : decode cX12_worthOf 67 = .ok (.iload_n 2, 1) := by decide +kernel
theorem dX12_worthOf_68 : decode cX12_worthOf 68 = .ok (.iaload, 1) := by decide +kernel
theorem dX12_worthOf_69 : decode cX12_worthOf 69 = .ok (.invokevirtual 265, 3) := by decide +kernel
theorem dX12_worthOf_72 : decode cX12_worthOf 72 = .ok (.ireturn, 1) := by decide +kernel
theorem dX12_worthOf_73 : decode cX12_worthOf 73 = .ok (.iinc 2 1, 3) := by decide +kernel
theorem dX12_worthOf_76 : decode cX12_worthOf 76 = .ok (.goto (-71), 3) := by decide +kernel
theorem dX12_worthOf_79 : decode cX12_worthOf 79 = .ok (.iconst 0, 1) := by decide +kernel
theorem dX12_worthOf_80 : decode cX12_worthOf 80 = .ok (.ireturn, 1) := by decide +kernel
theorem dX12_number_0 : decode cX12_number 0 = .ok (.aload_n 0, 1) := by decide +kernel
theorem dX12_number_1 : decode cX12_number 1 = .ok (.invokevirtual 183, 3) := by decide +kernel
theorem dX12_number_4 : decode cX12_number 4 = .ok (.invokestatic 186, 3) := by decide +kernel
theorem dX12_number_7 : decode cX12_number 7 = .ok (.ifCond .ne 9, 3) := by decide +kernel
theorem dX12_number_10 : decode cX12_number 10 = .ok (.aload_n 0, 1) := by decide +kernel
theorem dX12_number_11 : decode cX12_number 11 = .ok (.invokevirtual 180, 3) := by decide +kernel
theorem dX12_number_14 : decode cX12_number 14 = .ok (.iload_n 1, 1) := by decide +kernel
theorem dX12_number_15 : decode cX12_number 15 = .ok (.ireturn, 1) := by decide +kernel
theorem dX12_number_16 : decode cX12_number 16 = .ok (.aload_n 0, 1) := by decide +kernel
theorem dX12_number_17 : decode cX12_number 17 = .ok (.invokevirtual 167, 3) := by decide +kernel
theorem dX12_number_20 : decode cX12_number 20 = .ok (.bipush 48, 2) := by decide +kernel
theorem dX12_number_22 : decode cX12_number 22 = .ok (.isub, 1) := by decide +kernel
theorem dX12_number_23 : decode cX12_number 23 = .ok (.istore_n 3, 1) := by decide +kernel
theorem dX12_number_24 : decode cX12_number 24 = .ok (.aload_n 0, 1) := by decide +kernel
theorem dX12_number_25 : decode cX12_number 25 = .ok (.dup, 1) := by decide +kernel
theorem dX12_number_26 : decode cX12_number 26 = .ok (.getfield 164, 3) := by decide +kernel
theorem dX12_number_29 : decode cX12_number 29 = .ok (.iconst 1, 1) := by decide +kernel
theorem dX12_number_30 : decode cX12_number 30 = .ok (.iadd, 1) := by decide +kernel
theorem dX12_number_31 : decode cX12_number 31 = .ok (.putfield 164, 3) := by decide +kernel
theorem dX12_number_34 : decode cX12_number 34 = .ok (.aload_n 0, 1) := by decide +kernel
theorem dX12_number_35 : decode cX12_number 35 = .ok (.invokevirtual 167, 3) := by decide +kernel
theorem dX12_number_38 : decode cX12_number 38 = .ok (.invokestatic 186, 3) := by decide +kernel
theorem dX12_number_41 : decode cX12_number 41 = .ok (.ifCond .eq 26, 3) := by decide +kernel
theorem dX12_number_44 : decode cX12_number 44 = .ok (.bipush 10, 2) := by decide +kernel
theorem dX12_number_46 : decode cX12_number 46 = .ok (.iload_n 3, 1) := by decide +kernel
theorem dX12_number_47 : decode cX12_number 47 = .ok (.imul, 1) := by decide +kernel
theorem dX12_number_48 : decode cX12_number 48 = .ok (.aload_n 0, 1) := by decide +kernel
theorem dX12_number_49 : decode cX12_number 49 = .ok (.invokevirtual 167, 3) := by decide +kernel
theorem dX12_number_52 : decode cX12_number 52 = .ok (.iadd, 1) := by decide +kernel
theorem dX12_number_53 : decode cX12_number 53 = .ok (.bipush 48, 2) := by decide +kernel
theorem dX12_number_55 : decode cX12_number 55 = .ok (.isub, 1) := by decide +kernel
theorem dX12_number_56 : decode cX12_number 56 = .ok (.istore_n 3, 1) := by decide +kernel
theorem dX12_number_57 : decode cX12_number 57 = .ok (.aload_n 0, 1) := by decide +kernel
theorem dX12_number_58 : decode cX12_number 58 = .ok (.dup, 1) := by decide +kernel
theorem dX12_number_59 : decode cX12_number 59 = .ok (.getfield 164, 3) := by decide +kernel
theorem dX12_number_62 : decode cX12_number 62 = .ok (.iconst 1, 1) := by decide +kernel
theorem dX12_number_63 : decode cX12_number 63 = .ok (.iadd, 1) := by decide +kernel
theorem dX12_number_64 : decode cX12_number 64 = .ok (.putfield 164, 3) := by decide +kernel
theorem dX12_number_67 : decode cX12_number 67 = .ok (.aload_n 0, 1) := by decide +kernel
theorem dX12_number_68 : decode cX12_number 68 = .ok (.invokevirtual 167, 3) := by decide +kernel
theorem dX12_number_71 : decode cX12_number 71 = .ok (.invokestatic 186, 3) := by decide +kernel
theorem dX12_number_74 : decode cX12_number 74 = .ok (.ifCond .eq 10, 3) := by decide +kernel
theorem dX12_number_77 : decode cX12_number 77 = .ok (.aload_n 0, 1) := by decide +kernel
theorem dX12_number_78 : decode cX12_number 78 = .ok (.invokevirtual 180, 3) := by decide +kernel
theorem dX12_number_81 : decode cX12_number 81 = .ok (.goto 26, 3) := by decide +kernel
theorem dX12_number_84 : decode cX12_number 84 = .ok (.iload_n 3, 1) := by decide +kernel
theorem dX12_number_85 : decode cX12_number 85 = .ok (.iload_n 1, 1) := by decide +kernel
theorem dX12_number_86 : decode cX12_number 86 = .ok (.iload_n 2, 1) := by decide +kernel
theorem dX12_number_87 : decode cX12_number 87 = .ok (.invokestatic 269, 3) := by decide +kernel
theorem dX12_number_90 : decode cX12_number 90 = .ok (.ifCond .ne 17, 3) := by decide +kernel
theorem dX12_number_93 : decode cX12_number 93 = .ok (.aload_n 0, 1) := by decide +kernel
theorem dX12_number_94 : decode cX12_number 94 = .ok (.dup, 1) := by decide +kernel
theorem dX12_number_95 : decode cX12_number 95 = .ok (.getfield 164, 3) := by decide +kernel
theorem dX12_number_98 : decode cX12_number 98 = .ok (.iconst 1, 1) := by decide +kernel
theorem dX12_number_99 : decode cX12_number 99 = .ok (.isub, 1) := by decide +kernel
theorem dX12_number_100 : decode cX12_number 100 = .ok (.putfield 164, 3) := by decide +kernel
theorem dX12_number_103 : decode cX12_number 103 = .ok (.aload_n 0, 1) := by decide +kernel
theorem dX12_number_104 : decode cX12_number 104 = .ok (.invokevirtual 180, 3) := by decide +kernel
theorem dX12_number_107 : decode cX12_number 107 = .ok (.iload_n 3, 1) := by decide +kernel
theorem dX12_number_108 : decode cX12_number 108 = .ok (.ireturn, 1) := by decide +kernel
theorem dX12_itemOf_0 : decode cX12_itemOf 0 = .ok (.iload_n 0, 1) := by decide +kernel
theorem dX12_itemOf_1 : decode cX12_itemOf 1 = .ok (.bipush 112, 2) := by decide +kernel
theorem dX12_itemOf_3 : decode cX12_itemOf 3 = .ok (.if_icmp .ne 45, 3) := by decide +kernel
theorem dX12_itemOf_6 : decode cX12_itemOf 6 = .ok (.iload_n 1, 1) := by decide +kernel
theorem dX12_itemOf_7 : decode cX12_itemOf 7 = .ok (.bipush 119, 2) := by decide +kernel
theorem dX12_itemOf_9 : decode cX12_itemOf 9 = .ok (.if_icmp .ne 7, 3) := by decide +kernel
theorem dX12_itemOf_12 : decode cX12_itemOf 12 = .ok (.iconst 0, 1) := by decide +kernel
theorem dX12_itemOf_13 : decode cX12_itemOf 13 = .ok (.goto 34, 3) := by decide +kernel
theorem dX12_itemOf_16 : decode cX12_itemOf 16 = .ok (.iload_n 1, 1) := by decide +kernel
theorem dX12_itemOf_17 : decode cX12_itemOf 17 = .ok (.bipush 115, 2) := by decide +kernel
theorem dX12_itemOf_19 : decode cX12_itemOf 19 = .ok (.if_icmp .ne 7, 3) := by decide +kernel
theorem dX12_itemOf_22 : decode cX12_itemOf 22 = .ok (.iconst 1, 1) := by decide +kernel
theorem dX12_itemOf_23 : decode cX12_itemOf 23 = .ok (.goto 24, 3) := by decide +kernel
theorem dX12_itemOf_26 : decode cX12_itemOf 26 = .ok (.iload_n 1, 1) := by decide +kernel
theorem dX12_itemOf_27 : decode cX12_itemOf 27 = .ok (.bipush 108, 2) := by decide +kernel
theorem dX12_itemOf_29 : decode cX12_itemOf 29 = .ok (.if_icmp .ne 7, 3) := by decide +kernel
theorem dX12_itemOf_32 : decode cX12_itemOf 32 = .ok (.iconst 2, 1) := by decide +kernel
theorem dX12_itemOf_33 : decode cX12_itemOf 33 = .ok (.goto 14, 3) := by decide +kernel
theorem dX12_itemOf_36 : decode cX12_itemOf 36 = .ok (.iload_n 1, 1) := by decide +kernel
theorem dX12_itemOf_37 : decode cX12_itemOf 37 = .ok (.bipush 102, 2) := by decide +kernel
theorem dX12_itemOf_39 : decode cX12_itemOf 39 = .ok (.if_icmp .ne 7, 3) := by decide +kernel
theorem dX12_itemOf_42 : decode cX12_itemOf 42 = .ok (.iconst 3, 1) := by decide +kernel
theorem dX12_itemOf_43 : decode cX12_itemOf 43 = .ok (.goto 4, 3) := by decide +kernel
theorem dX12_itemOf_46 : decode cX12_itemOf 46 = .ok (.iconst (-1), 1) := by decide +kernel
theorem dX12_itemOf_47 : decode cX12_itemOf 47 = .ok (.ireturn, 1) := by decide +kernel
theorem dX12_itemOf_48 : decode cX12_itemOf 48 = .ok (.iload_n 1, 1) := by decide +kernel
theorem dX12_itemOf_49 : decode cX12_itemOf 49 = .ok (.bipush 107, 2) := by decide +kernel
theorem dX12_itemOf_51 : decode cX12_itemOf 51 = .ok (.if_icmp .ne 7, 3) := by decide +kernel
theorem dX12_itemOf_54 : decode cX12_itemOf 54 = .ok (.iconst 0, 1) := by decide +kernel
theorem dX12_itemOf_55 : decode cX12_itemOf 55 = .ok (.goto 14, 3) := by decide +kernel
theorem dX12_itemOf_58 : decode cX12_itemOf 58 = .ok (.iload_n 1, 1) := by decide +kernel
theorem dX12_itemOf_59 : decode cX12_itemOf 59 = .ok (.bipush 116, 2) := by decide +kernel
theorem dX12_itemOf_61 : decode cX12_itemOf 61 = .ok (.if_icmp .ne 7, 3) := by decide +kernel
theorem dX12_itemOf_64 : decode cX12_itemOf 64 = .ok (.iconst 1, 1) := by decide +kernel
theorem dX12_itemOf_65 : decode cX12_itemOf 65 = .ok (.goto 4, 3) := by decide +kernel
theorem dX12_itemOf_68 : decode cX12_itemOf 68 = .ok (.iconst (-1), 1) := by decide +kernel
theorem dX12_itemOf_69 : decode cX12_itemOf 69 = .ok (.ireturn, 1) := by decide +kernel
theorem dX12_highest_0 : decode cX12_highest 0 = .ok (.iload_n 0, 1) := by decide +kernel
theorem dX12_highest_1 : decode cX12_highest 1 = .ok (.bipush 112, 2) := by decide +kernel
theorem dX12_highest_3 : decode cX12_highest 3 = .ok (.if_icmp .ne 24, 3) := by decide +kernel
theorem dX12_highest_6 : decode cX12_highest 6 = .ok (.iload_n 1, 1) := by decide +kernel
theorem dX12_highest_7 : decode cX12_highest 7 = .ok (.ifCond .ne 8, 3) := by decide +kernel
theorem dX12_highest_10 : decode cX12_highest 10 = .ok (.bipush 9, 2) := by decide +kernel
theorem dX12_highest_12 : decode cX12_highest 12 = .ok (.goto 14, 3) := by decide +kernel
theorem dX12_highest_15 : decode cX12_highest 15 = .ok (.iload_n 1, 1) := by decide +kernel
theorem dX12_highest_16 : decode cX12_highest 16 = .ok (.iconst 3, 1) := by decide +kernel
theorem dX12_highest_17 : decode cX12_highest 17 = .ok (.if_icmp .ne 8, 3) := by decide +kernel
theorem dX12_highest_20 : decode cX12_highest 20 = .ok (.bipush 99, 2) := by decide +kernel
theorem dX12_highest_22 : decode cX12_highest 22 = .ok (.goto 4, 3) := by decide +kernel
theorem dX12_highest_25 : decode cX12_highest 25 = .ok (.iconst 3, 1) := by decide +kernel
theorem dX12_highest_26 : decode cX12_highest 26 = .ok (.ireturn, 1) := by decide +kernel
theorem dX12_highest_27 : decode cX12_highest 27 = .ok (.iload_n 1, 1) := by decide +kernel
theorem dX12_highest_28 : decode cX12_highest 28 = .ok (.ifCond .ne 7, 3) := by decide +kernel
theorem dX12_highest_31 : decode cX12_highest 31 = .ok (.iconst 4, 1) := by decide +kernel
theorem dX12_highest_32 : decode cX12_highest 32 = .ok (.goto 5, 3) := by decide +kernel
theorem dX12_highest_35 : decode cX12_highest 35 = .ok (.bipush 99, 2) := by decide +kernel
theorem dX12_highest_37 : decode cX12_highest 37 = .ok (.ireturn, 1) := by decide +kernel
theorem dX12_usual_0 : decode cX12_usual 0 = .ok (.iload_n 0, 1) := by decide +kernel
theorem dX12_usual_1 : decode cX12_usual 1 = .ok (.bipush 112, 2) := by decide +kernel
theorem dX12_usual_3 : decode cX12_usual 3 = .ok (.if_icmp .ne 23, 3) := by decide +kernel
theorem dX12_usual_6 : decode cX12_usual 6 = .ok (.iload_n 1, 1) := by decide +kernel
theorem dX12_usual_7 : decode cX12_usual 7 = .ok (.ifCond .ne 7, 3) := by decide +kernel
theorem dX12_usual_10 : decode cX12_usual 10 = .ok (.iconst 1, 1) := by decide +kernel
theorem dX12_usual_11 : decode cX12_usual 11 = .ok (.goto 14, 3) := by decide +kernel
theorem dX12_usual_14 : decode cX12_usual 14 = .ok (.iload_n 1, 1) := by decide +kernel
theorem dX12_usual_15 : decode cX12_usual 15 = .ok (.iconst 3, 1) := by decide +kernel
theorem dX12_usual_16 : decode cX12_usual 16 = .ok (.if_icmp .ne 8, 3) := by decide +kernel
theorem dX12_usual_19 : decode cX12_usual 19 = .ok (.bipush 10, 2) := by decide +kernel
theorem dX12_usual_21 : decode cX12_usual 21 = .ok (.goto 4, 3) := by decide +kernel
theorem dX12_usual_24 : decode cX12_usual 24 = .ok (.iconst 0, 1) := by decide +kernel
theorem dX12_usual_25 : decode cX12_usual 25 = .ok (.ireturn, 1) := by decide +kernel
theorem dX12_usual_26 : decode cX12_usual 26 = .ok (.iload_n 1, 1) := by decide +kernel
theorem dX12_usual_27 : decode cX12_usual 27 = .ok (.ifCond .ne 7, 3) := by decide +kernel
theorem dX12_usual_30 : decode cX12_usual 30 = .ok (.iconst 2, 1) := by decide +kernel
theorem dX12_usual_31 : decode cX12_usual 31 = .ok (.goto 4, 3) := by decide +kernel
theorem dX12_usual_34 : decode cX12_usual 34 = .ok (.iconst 0, 1) := by decide +kernel
theorem dX12_usual_35 : decode cX12_usual 35 = .ok (.ireturn, 1) := by decide +kernel
theorem dX12_items_0 : decode cX12_items 0 = .ok (.iconst 0, 1) := by decide +kernel
theorem dX12_items_1 : decode cX12_items 1 = .ok (.istore 5, 2) := by decide +kernel
theorem dX12_items_3 : decode cX12_items 3 = .ok (.iload 5, 2) := by decide +kernel
theorem dX12_items_5 : decode cX12_items 5 = .ok (.iload 4, 2) := by decide +kernel
theorem dX12_items_7 : decode cX12_items 7 = .ok (.if_icmp .ge 21, 3) := by decide +kernel
theorem dX12_items_10 : decode cX12_items 10 = .ok (.aload_n 2, 1) := by decide +kernel
theorem dX12_items_11 : decode cX12_items 11 = .ok (.iload_n 3, 1) := by decide +kernel
theorem dX12_items_12 : decode cX12_items 12 = .ok (.iload 5, 2) := by decide +kernel
theorem dX12_items_14 : decode cX12_items 14 = .ok (.iadd, 1) := by decide +kernel
theorem dX12_items_15 : decode cX12_items 15 = .ok (.iload_n 1, 1) := by decide +kernel
theorem dX12_items_16 : decode cX12_items 16 = .ok (.iload 5, 2) := by decide +kernel
theorem dX12_items_18 : decode cX12_items 18 = .ok (.invokestatic 273, 3) := by decide +kernel
theorem dX12_items_21 : decode cX12_items 21 = .ok (.iastore, 1) := by decide +kernel
theorem dX12_items_22 : decode cX12_items 22 = .ok (.iinc 5 1, 3) := by decide +kernel
theorem dX12_items_25 : decode cX12_items 25 = .ok (.goto (-22), 3) := by decide +kernel
theorem dX12_items_28 : decode cX12_items 28 = .ok (.iconst 0, 1) := by decide +kernel
theorem dX12_items_29 : decode cX12_items 29 = .ok (.istore 5, 2) := by decide +kernel
theorem dX12_items_31 : decode cX12_items 31 = .ok (.iload_n 1, 1) := by decide +kernel
theorem dX12_items_32 : decode cX12_items 32 = .ok (.aload_n 0, 1) := by decide +kernel
theorem dX12_items_33 : decode cX12_items 33 = .ok (.invokevirtual 183, 3) := by decide +kernel
theorem dX12_items_36 : decode cX12_items 36 = .ok (.invokestatic 277, 3) := by decide +kernel
theorem dX12_items_39 : decode cX12_items 39 = .ok (.istore 6, 2) := by decide +kernel
theorem dX12_items_41 : decode cX12_items 41 = .ok (.aload_n 0, 1) := by decide +kernel
theorem dX12_items_42 : decode cX12_items 42 = .ok (.getfield 171, 3) := by decide +kernel
theorem dX12_items_45 : decode cX12_items 45 = .ok (.iconst (-1), 1) := by decide +kernel
theorem dX12_items_46 : decode cX12_items 46 = .ok (.if_icmp .ne 95, 3) := by decide +kernel
theorem dX12_items_49 : decode cX12_items 49 = .ok (.iload 6, 2) := by decide +kernel
theorem dX12_items_51 : decode cX12_items 51 = .ok (.iconst (-1), 1) := by decide +kernel
theorem dX12_items_52 : decode cX12_items 52 = .ok (.if_icmp .eq 89, 3) := by decide +kernel
theorem dX12_items_55 : decode cX12_items 55 = .ok (.iload 5, 2) := by decide +kernel
theorem dX12_items_57 : decode cX12_items 57 = .ok (.iload 6, 2) := by decide +kernel
theorem dX12_items_59 : decode cX12_items 59 = .ok (.invokestatic 280, 3) := by decide +kernel
theorem dX12_items_62 : decode cX12_items 62 = .ok (.ifCond .ne 79, 3) := by decide +kernel
theorem dX12_items_65 : decode cX12_items 65 = .ok (.iload 5, 2) := by decide +kernel
theorem dX12_items_67 : decode cX12_items 67 = .ok (.iconst 1, 1) := by decide +kernel
theorem dX12_items_68 : decode cX12_items 68 = .ok (.iload 6, 2) := by decide +kernel
theorem dX12_items_70 : decode cX12_items 70 = .ok (.ishl, 1) := by decide +kernel
theorem dX12_items_71 : decode cX12_items 71 = .ok (.ior, 1) := by decide +kernel
theorem dX12_items_72 : decode cX12_items 72 = .ok (.istore 5, 2) := by decide +kernel
theorem dX12_items_74 : decode cX12_items 74 = .ok (.aload_n 0, 1) := by decide +kernel
theorem dX12_items_75 : decode cX12_items 75 = .ok (.dup, 1) := by decide +kernel
theorem dX12_items_76 : decode cX12_items 76 = .ok (.getfield 164, 3) := by decide +kernel
theorem dX12_items_79 : decode cX12_items 79 = .ok (.iconst 1, 1) := by decide +kernel
theorem dX12_items_80 : decode cX12_items 80 = .ok (.iadd, 1) := by decide +kernel
theorem dX12_items_81 : decode cX12_items 81 = .ok (.putfield 164, 3) := by decide +kernel
theorem dX12_items_84 : decode cX12_items 84 = .ok (.aload_n 2, 1) := by decide +kernel
theorem dX12_items_85 : decode cX12_items 85 = .ok (.iload_n 3, 1) := by decide +kernel
theorem dX12_items_86 : decode cX12_items 86 = .ok (.iload 6, 2) := by decide +kernel
theorem dX12_items_88 : decode cX12_items 88 = .ok (.iadd, 1) := by decide +kernel
theorem dX12_items_89 : decode cX12_items 89 = .ok (.aload_n 0, 1) := by decide +kernel
theorem dX12_items_90 : decode cX12_items 90 = .ok (.iload_n 1, 1) := by decide +kernel
theorem dX12_items_91 : decode cX12_items 91 = .ok (.bipush 98, 2) := by decide +kernel
theorem dX12_items_93 : decode cX12_items 93 = .ok (.if_icmp .ne 12, 3) := by decide +kernel
theorem dX12_items_96 : decode cX12_items 96 = .ok (.iload 6, 2) := by decide +kernel
theorem dX12_items_98 : decode cX12_items 98 = .ok (.ifCond .ne 7, 3) := by decide +kernel
theorem dX12_items_101 : decode cX12_items 101 = .ok (.iconst 1, 1) := by decide +kernel
theorem dX12_items_102 : decode cX12_items 102 = .ok (.goto 4, 3) := by decide +kernel
theorem dX12_items_105 : decode cX12_items 105 = .ok (.iconst 0, 1) := by decide +kernel
theorem dX12_items_106 : decode cX12_items 106 = .ok (.iload_n 1, 1) := by decide +kernel
theorem dX12_items_107 : decode cX12_items 107 = .ok (.iload 6, 2) := by decide +kernel
theorem dX12_items_109 : decode cX12_items 109 = .ok (.invokestatic 284, 3) := by decide +kernel
theorem dX12_items_112 : decode cX12_items 112 = .ok (.invokevirtual 287, 3) := by decide +kernel
theorem dX12_items_115 : decode cX12_items 115 = .ok (.iastore, 1) := by decide +kernel
theorem dX12_items_116 : decode cX12_items 116 = .ok (.aload_n 0, 1) := by decide +kernel
theorem dX12_items_117 : decode cX12_items 117 = .ok (.getfield 171, 3) := by decide +kernel
theorem dX12_items_120 : decode cX12_items 120 = .ok (.iconst (-1), 1) := by decide +kernel
theorem dX12_items_121 : decode cX12_items 121 = .ok (.if_icmp .ne 14, 3) := by decide +kernel
theorem dX12_items_124 : decode cX12_items 124 = .ok (.iload_n 1, 1) := by decide +kernel
theorem dX12_items_125 : decode cX12_items 125 = .ok (.aload_n 0, 1) := by decide +kernel
theorem dX12_items_126 : decode cX12_items 126 = .ok (.invokevirtual 183, 3) := by decide +kernel
theorem dX12_items_129 : decode cX12_items 129 = .ok (.invokestatic 277, 3) := by decide +kernel
theorem dX12_items_132 : decode cX12_items 132 = .ok (.goto 4, 3) := by decide +kernel
theorem dX12_items_135 : decode cX12_items 135 = .ok (.iconst (-1), 1) := by decide +kernel
theorem dX12_items_136 : decode cX12_items 136 = .ok (.istore 6, 2) := by decide +kernel
theorem dX12_items_138 : decode cX12_items 138 = .ok (.goto (-97), 3) := by decide +kernel
theorem dX12_items_141 : decode cX12_items 141 = .ok (.return_, 1) := by decide +kernel
theorem dX12_weightsRead_0 : decode cX12_weightsRead 0 = .ok (.iconst 0, 1) := by decide +kernel
theorem dX12_weightsRead_1 : decode cX12_weightsRead 1 = .ok (.istore_n 1, 1) := by decide +kernel
theorem dX12_weightsRead_2 : decode cX12_weightsRead 2 = .ok (.iconst 0, 1) := by decide +kernel
theorem dX12_weightsRead_3 : decode cX12_weightsRead 3 = .ok (.istore_n 2, 1) := by decide +kernel
theorem dX12_weightsRead_4 : decode cX12_weightsRead 4 = .ok (.iload_n 2, 1) := by decide +kernel
theorem dX12_weightsRead_5 : decode cX12_weightsRead 5 = .ok (.aload_n 0, 1) := by decide +kernel
theorem dX12_weightsRead_6 : decode cX12_weightsRead 6 = .ok (.getfield 290, 3) := by decide +kernel
theorem dX12_weightsRead_9 : decode cX12_weightsRead 9 = .ok (.if_icmp .ge 22, 3) := by decide +kernel
theorem dX12_weightsRead_12 : decode cX12_weightsRead 12 = .ok (.iload_n 1, 1) := by decide +kernel
theorem dX12_weightsRead_13 : decode cX12_weightsRead 13 = .ok (.aload_n 0, 1) := by decide +kernel
theorem dX12_weightsRead_14 : decode cX12_weightsRead 14 = .ok (.getfield 40, 3) := by decide +kernel
theorem dX12_weightsRead_17 : decode cX12_weightsRead 17 = .ok (.iconst 4, 1) := by decide +kernel
theorem dX12_weightsRead_18 : decode cX12_weightsRead 18 = .ok (.iload_n 2, 1) := by decide +kernel
theorem dX12_weightsRead_19 : decode cX12_weightsRead 19 = .ok (.imul, 1) := by decide +kernel
theorem dX12_weightsRead_20 : decode cX12_weightsRead 20 = .ok (.iconst 0, 1) := by decide +kernel
theorem dX12_weightsRead_21 : decode cX12_weightsRead 21 = .ok (.iadd, 1) := by decide +kernel
theorem dX12_weightsRead_22 : decode cX12_weightsRead 22 = .ok (.iaload, 1) := by decide +kernel
theorem dX12_weightsRead_23 : decode cX12_weightsRead 23 = .ok (.iadd, 1) := by decide +kernel
theorem dX12_weightsRead_24 : decode cX12_weightsRead 24 = .ok (.istore_n 1, 1) := by decide +kernel
theorem dX12_weightsRead_25 : decode cX12_weightsRead 25 = .ok (.iinc 2 1, 3) := by decide +kernel
theorem dX12_weightsRead_28 : decode cX12_weightsRead 28 = .ok (.goto (-24), 3) := by decide +kernel
theorem dX12_weightsRead_31 : decode cX12_weightsRead 31 = .ok (.iload_n 1, 1) := by decide +kernel
theorem dX12_weightsRead_32 : decode cX12_weightsRead 32 = .ok (.ireturn, 1) := by decide +kernel
theorem dX12_readLake_0 : decode cX12_readLake 0 = .ok (.aload_n 0, 1) := by decide +kernel
theorem dX12_readLake_1 : decode cX12_readLake 1 = .ok (.iconst 0, 1) := by decide +kernel
theorem dX12_readLake_2 : decode cX12_readLake 2 = .ok (.putfield 164, 3) := by decide +kernel
theorem dX12_readLake_5 : decode cX12_readLake 5 = .ok (.aload_n 0, 1) := by decide +kernel
theorem dX12_readLake_6 : decode cX12_readLake 6 = .ok (.iconst (-1), 1) := by decide +kernel
theorem dX12_readLake_7 : decode cX12_readLake 7 = .ok (.putfield 171, 3) := by decide +kernel
theorem dX12_readLake_10 : decode cX12_readLake 10 = .ok (.aload_n 0, 1) := by decide +kernel
theorem dX12_readLake_11 : decode cX12_readLake 11 = .ok (.iconst 0, 1) := by decide +kernel
theorem dX12_readLake_12 : decode cX12_readLake 12 = .ok (.putfield 290, 3) := by decide +kernel
theorem dX12_readLake_15 : decode cX12_readLake 15 = .ok (.aload_n 0, 1) := by decide +kernel
theorem dX12_readLake_16 : decode cX12_readLake 16 = .ok (.getfield 43, 3) := by decide +kernel
theorem dX12_readLake_19 : decode cX12_readLake 19 = .ok (.iconst 0, 1) := by decide +kernel
theorem dX12_readLake_20 : decode cX12_readLake 20 = .ok (.iconst 2, 1) := by decide +kernel
theorem dX12_readLake_21 : decode cX12_readLake 21 = .ok (.iastore, 1) := by decide +kernel
theorem dX12_readLake_22 : decode cX12_readLake 22 = .ok (.aload_n 0, 1) := by decide +kernel
theorem dX12_readLake_23 : decode cX12_readLake 23 = .ok (.getfield 43, 3) := by decide +kernel
theorem dX12_readLake_26 : decode cX12_readLake 26 = .ok (.iconst 1, 1) := by decide +kernel
theorem dX12_readLake_27 : decode cX12_readLake 27 = .ok (.iconst 0, 1) := by decide +kernel
theorem dX12_readLake_28 : decode cX12_readLake 28 = .ok (.iastore, 1) := by decide +kernel
theorem dX12_readLake_29 : decode cX12_readLake 29 = .ok (.iconst 0, 1) := by decide +kernel
theorem dX12_readLake_30 : decode cX12_readLake 30 = .ok (.istore_n 1, 1) := by decide +kernel
theorem dX12_readLake_31 : decode cX12_readLake 31 = .ok (.iconst 1, 1) := by decide +kernel
theorem dX12_readLake_32 : decode cX12_readLake 32 = .ok (.istore_n 2, 1) := by decide +kernel
theorem dX12_readLake_33 : decode cX12_readLake 33 = .ok (.iload_n 2, 1) := by decide +kernel
theorem dX12_readLake_34 : decode cX12_readLake 34 = .ok (.ifCond .eq 154, 3) := by decide +kernel
theorem dX12_readLake_37 : decode cX12_readLake 37 = .ok (.aload_n 0, 1) := by decide +kernel
theorem dX12_readLake_38 : decode cX12_readLake 38 = .ok (.getfield 171, 3) := by decide +kernel
theorem dX12_readLake_41 : decode cX12_readLake 41 = .ok (.iconst (-1), 1) := by decide +kernel
theorem dX12_readLake_42 : decode cX12_readLake 42 = .ok (.if_icmp .ne 146, 3) := by decide +kernel
theorem dX12_readLake_45 : decode cX12_readLake 45 = .ok (.aload_n 0, 1) := by decide +kernel
theorem dX12_readLake_46 : decode cX12_readLake 46 = .ok (.invokevirtual 183, 3) := by decide +kernel
theorem dX12_readLake_49 : decode cX12_readLake 49 = .ok (.istore_n 3, 1) := by decide +kernel
theorem dX12_readLake_50 : decode cX12_readLake 50 = .ok (.iload_n 3, 1) := by decide +kernel
theorem dX12_readLake_51 : decode cX12_readLake 51 = .ok (.bipush 112, 2) := by decide +kernel
theorem dX12_readLake_53 : decode cX12_readLake 53 = .ok (.if_icmp .ne 51, 3) := by decide +kernel
theorem dX12_readLake_56 : decode cX12_readLake 56 = .ok (.aload_n 0, 1) := by decide +kernel
theorem dX12_readLake_57 : decode cX12_readLake 57 = .ok (.getfield 290, 3) := by decide +kernel
theorem dX12_readLake_60 : decode cX12_readLake 60 = .ok (.bipush 6, 2) := by decide +kernel
theorem dX12_readLake_62 : decode cX12_readLake 62 = .ok (.if_icmp .ge 42, 3) := by decide +kernel
theorem dX12_readLake_65 : decode cX12_readLake 65 = .ok (.aload_n 0, 1) := by decide +kernel
theorem dX12_readLake_66 : decode cX12_readLake 66 = .ok (.dup, 1) := by decide +kernel
theorem dX12_readLake_67 : decode cX12_readLake 67 = .ok (.getfield 164, 3) := by decide +kernel
theorem dX12_readLake_70 : decode cX12_readLake 70 = .ok (.iconst 1, 1) := by decide +kernel
theorem dX12_readLake_71 : decode cX12_readLake 71 = .ok (.iadd, 1) := by decide +kernel
theorem dX12_readLake_72 : decode cX12_readLake 72 = .ok (.putfield 164, 3) := by decide +kernel
theorem dX12_readLake_75 : decode cX12_readLake 75 = .ok (.aload_n 0, 1) := by decide +kernel
theorem dX12_readLake_76 : decode cX12_readLake 76 = .ok (.iload_n 3, 1) := by decide +kernel
theorem dX12_readLake_77 : decode cX12_readLake 77 = .ok (.aload_n 0, 1) := by decide +kernel
theorem dX12_readLake_78 : decode cX12_readLake 78 = .ok (.getfield 40, 3) := by decide +kernel
theorem dX12_readLake_81 : decode cX12_readLake 81 = .ok (.iconst 4, 1) := by decide +kernel
theorem dX12_readLake_82 : decode cX12_readLake 82 = .ok (.aload_n 0, 1) := by decide +kernel
theorem dX12_readLake_83 : decode cX12_readLake 83 = .ok (.getfield 290, 3) := by decide +kernel
theorem dX12_readLake_86 : decode cX12_readLake 86 = .ok (.imul, 1) := by decide +kernel
theorem dX12_readLake_87 : decode cX12_readLake 87 = .ok (.iconst 4, 1) := by decide +kernel
theorem dX12_readLake_88 : decode cX12_readLake 88 = .ok (.invokevirtual 293, 3) := by decide +kernel
theorem dX12_readLake_91 : decode cX12_readLake 91 = .ok (.aload_n 0, 1) := by decide +kernel
theorem dX12_readLake_92 : decode cX12_readLake 92 = .ok (.dup, 1) := by decide +kernel
theorem dX12_readLake_93 : decode cX12_readLake 93 = .ok (.getfield 290, 3) := by decide +kernel
theorem dX12_readLake_96 : decode cX12_readLake 96 = .ok (.iconst 1, 1) := by decide +kernel
theorem dX12_readLake_97 : decode cX12_readLake 97 = .ok (.iadd, 1) := by decide +kernel
theorem dX12_readLake_98 : decode cX12_readLake 98 = .ok (.putfield 290, 3) := by decide +kernel
theorem dX12_readLake_101 : decode cX12_readLake 101 = .ok (.goto 43, 3) := by decide +kernel
theorem dX12_readLake_104 : decode cX12_readLake 104 = .ok (.iload_n 3, 1) := by decide +kernel
theorem dX12_readLake_105 : decode cX12_readLake 105 = .ok (.bipush 98, 2) := by decide +kernel
theorem dX12_readLake_107 : decode cX12_readLake 107 = .ok (.if_icmp .ne 33, 3) := by decide +kernel
theorem dX12_readLake_110 : decode cX12_readLake 110 = .ok (.iload_n 1, 1) := by decide +kernel
theorem dX12_readLake_111 : decode cX12_readLake 111 = .ok (.ifCond .ne 29, 3) := by decide +kernel
theorem dX12_readLake_114 : decode cX12_readLake 114 = .ok (.iconst 1, 1) := by decide +kernel
theorem dX12_readLake_115 : decode cX12_readLake 115 = .ok (.istore_n 1, 1) := by decide +kernel
theorem dX12_readLake_116 : decode cX12_readLake 116 = .ok (.aload_n 0, 1) := by decide +kernel
theorem dX12_readLake_117 : decode cX12_readLake 117 = .ok (.dup, 1) := by decide +kernel
theorem dX12_readLake_118 : decode cX12_readLake 118 = .ok (.getfield 164, 3) := by decide +kernel
theorem dX12_readLake_121 : decode cX12_readLake 121 = .ok (.iconst 1, 1) := by decide +kernel
theorem dX12_readLake_122 : decode cX12_readLake 122 = .ok (.iadd, 1) := by decide +kernel
theorem dX12_readLake_123 : decode cX12_readLake 123 = .ok (.putfield 164, 3) := by decide +kernel
theorem dX12_readLake_126 : decode cX12_readLake 126 = .ok (.aload_n 0, 1) := by decide +kernel
theorem dX12_readLake_127 : decode cX12_readLake 127 = .ok (.iload_n 3, 1) := by decide +kernel
theorem dX12_readLake_128 : decode cX12_readLake 128 = .ok (.aload_n 0, 1) := by decide +kernel
theorem dX12_readLake_129 : decode cX12_readLake 129 = .ok (.getfield 43, 3) := by decide +kernel
theorem dX12_readLake_132 : decode cX12_readLake 132 = .ok (.iconst 0, 1) := by decide +kernel
theorem dX12_readLake_133 : decode cX12_readLake 133 = .ok (.iconst 2, 1) := by decide +kernel
theorem dX12_readLake_134 : decode cX12_readLake 134 = .ok (.invokevirtual 293, 3) := by decide +kernel
theorem dX12_readLake_137 : decode cX12_readLake 137 = .ok (.goto 7, 3) := by decide +kernel
theorem dX12_readLake_140 : decode cX12_readLake 140 = .ok (.aload_n 0, 1) := by decide +kernel
theorem dX12_readLake_141 : decode cX12_readLake 141 = .ok (.invokevirtual 180, 3) := by decide +kernel
theorem dX12_readLake_144 : decode cX12_readLake 144 = .ok (.aload_n 0, 1) := by decide +kernel
theorem dX12_readLake_145 : decode cX12_readLake 145 = .ok (.getfield 171, 3) := by decide +kernel
theorem dX12_readLake_148 : decode cX12_readLake 148 = .ok (.iconst (-1), 1) := by decide +kernel
theorem dX12_readLake_149 : decode cX12_readLake 149 = .ok (.if_icmp .ne 16, 3) := by decide +kernel
theorem dX12_readLake_152 : decode cX12_readLake 152 = .ok (.aload_n 0, 1) := by decide +kernel
theorem dX12_readLake_153 : decode cX12_readLake 153 = .ok (.invokevirtual 183, 3) := by decide +kernel
theorem dX12_readLake_156 : decode cX12_readLake 156 = .ok (.bipush 59, 2) := by decide +kernel
theorem dX12_readLake_158 : decode cX12_readLake 158 = .ok (.if_icmp .ne 7, 3) := by decide +kernel
theorem dX12_readLake_161 : decode cX12_readLake 161 = .ok (.iconst 1, 1) := by decide +kernel
theorem dX12_readLake_162 : decode cX12_readLake 162 = .ok (.goto 4, 3) := by decide +kernel
theorem dX12_readLake_165 : decode cX12_readLake 165 = .ok (.iconst 0, 1) := by decide +kernel
theorem dX12_readLake_166 : decode cX12_readLake 166 = .ok (.istore_n 2, 1) := by decide +kernel
theorem dX12_readLake_167 : decode cX12_readLake 167 = .ok (.aload_n 0, 1) := by decide +kernel
theorem dX12_readLake_168 : decode cX12_readLake 168 = .ok (.dup, 1) := by decide +kernel
theorem dX12_readLake_169 : decode cX12_readLake 169 = .ok (.getfield 164, 3) := by decide +kernel
theorem dX12_readLake_172 : decode cX12_readLake 172 = .ok (.iload_n 2, 1) := by decide +kernel
theorem dX12_readLake_173 : decode cX12_readLake 173 = .ok (.ifCond .eq 7, 3) := by decide +kernel
theorem dX12_readLake_176 : decode cX12_readLake 176 = .ok (.iconst 1, 1) := by decide +kernel
theorem dX12_readLake_177 : decode cX12_readLake 177 = .ok (.goto 4, 3) := by decide +kernel
theorem dX12_readLake_180 : decode cX12_readLake 180 = .ok (.iconst 0, 1) := by decide +kernel
theorem dX12_readLake_181 : decode cX12_readLake 181 = .ok (.iadd, 1) := by decide +kernel
theorem dX12_readLake_182 : decode cX12_readLake 182 = .ok (.putfield 164, 3) := by decide +kernel
theorem dX12_readLake_185 : decode cX12_readLake 185 = .ok (.goto (-152), 3) := by decide +kernel
theorem dX12_readLake_188 : decode cX12_readLake 188 = .ok (.aload_n 0, 1) := by decide +kernel
theorem dX12_readLake_189 : decode cX12_readLake 189 = .ok (.getfield 171, 3) := by decide +kernel
theorem dX12_readLake_192 : decode cX12_readLake 192 = .ok (.iconst (-1), 1) := by decide +kernel
theorem dX12_readLake_193 : decode cX12_readLake 193 = .ok (.if_icmp .ne 30, 3) := by decide +kernel
theorem dX12_readLake_196 : decode cX12_readLake 196 = .ok (.aload_n 0, 1) := by decide +kernel
theorem dX12_readLake_197 : decode cX12_readLake 197 = .ok (.invokevirtual 183, 3) := by decide +kernel
theorem dX12_readLake_200 : decode cX12_readLake 200 = .ok (.iconst (-1), 1) := by decide +kernel
theorem dX12_readLake_201 : decode cX12_readLake 201 = .ok (.if_icmp .ne 18, 3) := by decide +kernel
theorem dX12_readLake_204 : decode cX12_readLake 204 = .ok (.aload_n 0, 1) := by decide +kernel
theorem dX12_readLake_205 : decode cX12_readLake 205 = .ok (.getfield 290, 3) := by decide +kernel
theorem dX12_readLake_208 : decode cX12_readLake 208 = .ok (.iconst 2, 1) := by decide +kernel
theorem dX12_readLake_209 : decode cX12_readLake 209 = .ok (.if_icmp .lt 10, 3) := by decide +kernel
theorem dX12_readLake_212 : decode cX12_readLake 212 = .ok (.aload_n 0, 1) := by decide +kernel
theorem dX12_readLake_213 : decode cX12_readLake 213 = .ok (.invokevirtual 297, 3) := by decide +kernel
theorem dX12_readLake_216 : decode cX12_readLake 216 = .ok (.ifCond .ne 7, 3) := by decide +kernel
theorem dX12_readLake_219 : decode cX12_readLake 219 = .ok (.aload_n 0, 1) := by decide +kernel
theorem dX12_readLake_220 : decode cX12_readLake 220 = .ok (.invokevirtual 180, 3) := by decide +kernel
theorem dX12_readLake_223 : decode cX12_readLake 223 = .ok (.aload_n 0, 1) := by decide +kernel
theorem dX12_readLake_224 : decode cX12_readLake 224 = .ok (.getfield 171, 3) := by decide +kernel
theorem dX12_readLake_227 : decode cX12_readLake 227 = .ok (.ireturn, 1) := by decide +kernel
theorem dX12_fault_0 : decode cX12_fault 0 = .ok (.iload_n 1, 1) := by decide +kernel
theorem dX12_fault_1 : decode cX12_fault 1 = .ok (.ifCond .ne 10, 3) := by decide +kernel
theorem dX12_fault_4 : decode cX12_fault 4 = .ok (.aload_n 0, 1) := by decide +kernel
theorem dX12_fault_5 : decode cX12_fault 5 = .ok (.invokevirtual 300, 3) := by decide +kernel
theorem dX12_fault_8 : decode cX12_fault 8 = .ok (.goto 18, 3) := by decide +kernel
theorem dX12_fault_11 : decode cX12_fault 11 = .ok (.iload_n 1, 1) := by decide +kernel
theorem dX12_fault_12 : decode cX12_fault 12 = .ok (.iconst 1, 1) := by decide +kernel
theorem dX12_fault_13 : decode cX12_fault 13 = .ok (.if_icmp .ne 11, 3) := by decide +kernel
theorem dX12_fault_16 : decode cX12_fault 16 = .ok (.aload_n 0, 1) := by decide +kernel
theorem dX12_fault_17 : decode cX12_fault 17 = .ok (.iconst 4, 1) := by decide +kernel
theorem dX12_fault_18 : decode cX12_fault 18 = .ok (.invokevirtual 303, 3) := by decide +kernel
theorem dX12_fault_21 : decode cX12_fault 21 = .ok (.goto 5, 3) := by decide +kernel
theorem dX12_fault_24 : decode cX12_fault 24 = .ok (.bipush (-2), 2) := by decide +kernel
theorem dX12_fault_26 : decode cX12_fault 26 = .ok (.ireturn, 1) := by decide +kernel
theorem dX12_takeLake_0 : decode cX12_takeLake 0 = .ok (.aload_n 0, 1) := by decide +kernel
theorem dX12_takeLake_1 : decode cX12_takeLake 1 = .ok (.aload_n 0, 1) := by decide +kernel
theorem dX12_takeLake_2 : decode cX12_takeLake 2 = .ok (.getfield 290, 3) := by decide +kernel
theorem dX12_takeLake_5 : decode cX12_takeLake 5 = .ok (.putfield 306, 3) := by decide +kernel
theorem dX12_takeLake_8 : decode cX12_takeLake 8 = .ok (.aload_n 0, 1) := by decide +kernel
theorem dX12_takeLake_9 : decode cX12_takeLake 9 = .ok (.aload_n 0, 1) := by decide +kernel
theorem dX12_takeLake_10 : decode cX12_takeLake 10 = .ok (.getfield 43, 3) := by decide +kernel
theorem dX12_takeLake_13 : decode cX12_takeLake 13 = .ok (.iconst 0, 1) := by decide +kernel
theorem dX12_takeLake_14 : decode cX12_takeLake 14 = .ok (.iaload, 1) := by decide +kernel
theorem dX12_takeLake_15 : decode cX12_takeLake 15 = .ok (.putfield 309, 3) := by decide +kernel
theorem dX12_takeLake_18 : decode cX12_takeLake 18 = .ok (.aload_n 0, 1) := by decide +kernel
theorem dX12_takeLake_19 : decode cX12_takeLake 19 = .ok (.aload_n 0, 1) := by decide +kernel
theorem dX12_takeLake_20 : decode cX12_takeLake 20 = .ok (.getfield 43, 3) := by decide +kernel
theorem dX12_takeLake_23 : decode cX12_takeLake 23 = .ok (.iconst 1, 1) := by decide +kernel
theorem dX12_takeLake_24 : decode cX12_takeLake 24 = .ok (.iaload, 1) := by decide +kernel
theorem dX12_takeLake_25 : decode cX12_takeLake 25 = .ok (.putfield 312, 3) := by decide +kernel
theorem dX12_takeLake_28 : decode cX12_takeLake 28 = .ok (.iconst 0, 1) := by decide +kernel
theorem dX12_takeLake_29 : decode cX12_takeLake 29 = .ok (.istore_n 1, 1) := by decide +kernel
theorem dX12_takeLake_30 : decode cX12_takeLake 30 = .ok (.iload_n 1, 1) := by decide +kernel
theorem dX12_takeLake_31 : decode cX12_takeLake 31 = .ok (.bipush 24, 2) := by decide +kernel
theorem dX12_takeLake_33 : decode cX12_takeLake 33 = .ok (.if_icmp .ge 21, 3) := by decide +kernel
theorem dX12_takeLake_36 : decode cX12_takeLake 36 = .ok (.aload_n 0, 1) := by decide +kernel
theorem dX12_takeLake_37 : decode cX12_takeLake 37 = .ok (.getfield 46, 3) := by decide +kernel
theorem dX12_takeLake_40 : decode cX12_takeLake 40 = .ok (.iload_n 1, 1) := by decide +kernel
theorem dX12_takeLake_41 : decode cX12_takeLake 41 = .ok (.aload_n 0, 1) := by decide +kernel
theorem dX12_takeLake_42 : decode cX12_takeLake 42 = .ok (.getfield 40, 3) := by decide +kernel
theorem dX12_takeLake_45 : decode cX12_takeLake 45 = .ok (.iload_n 1, 1) := by decide +kernel
theorem dX12_takeLake_46 : decode cX12_takeLake 46 = .ok (.iaload, 1) := by decide +kernel
theorem dX12_takeLake_47 : decode cX12_takeLake 47 = .ok (.iastore, 1) := by decide +kernel
theorem dX12_takeLake_48 : decode cX12_takeLake 48 = .ok (.iinc 1 1, 3) := by decide +kernel
theorem dX12_takeLake_51 : decode cX12_takeLake 51 = .ok (.goto (-21), 3) := by decide +kernel
theorem dX12_takeLake_54 : decode cX12_takeLake 54 = .ok (.iconst 0, 1) := by decide +kernel
theorem dX12_takeLake_55 : decode cX12_takeLake 55 = .ok (.istore_n 1, 1) := by decide +kernel
theorem dX12_takeLake_56 : decode cX12_takeLake 56 = .ok (.iload_n 1, 1) := by decide +kernel
theorem dX12_takeLake_57 : decode cX12_takeLake 57 = .ok (.iconst 4, 1) := by decide +kernel
theorem dX12_takeLake_58 : decode cX12_takeLake 58 = .ok (.if_icmp .ge 30, 3) := by decide +kernel
theorem dX12_takeLake_61 : decode cX12_takeLake 61 = .ok (.aload_n 0, 1) := by decide +kernel
theorem dX12_takeLake_62 : decode cX12_takeLake 62 = .ok (.getfield 49, 3) := by decide +kernel
theorem dX12_takeLake_65 : decode cX12_takeLake 65 = .ok (.iload_n 1, 1) := by decide +kernel
theorem dX12_takeLake_66 : decode cX12_takeLake 66 = .ok (.iconst 0, 1) := by decide +kernel
theorem dX12_takeLake_67 : decode cX12_takeLake 67 = .ok (.iastore, 1) := by decide +kernel
theorem dX12_takeLake_68 : decode cX12_takeLake 68 = .ok (.aload_n 0, 1) := by decide +kernel
theorem dX12_takeLake_69 : decode cX12_takeLake 69 = .ok (.getfield 77, 3) := by decide +kernel
theorem dX12_takeLake_72 : decode cX12_takeLake 72 = .ok (.iload_n 1, 1) := by decide +kernel
theorem dX12_takeLake_73 : decode cX12_takeLake 73 = .ok (.iconst (-1), 1) := by decide +kernel
theorem dX12_takeLake_74 : decode cX12_takeLake 74 = .ok (.iastore, 1) := by decide +kernel
theorem dX12_takeLake_75 : decode cX12_takeLake 75 = .ok (.aload_n 0, 1) := by decide +kernel
theorem dX12_takeLake_76 : decode cX12_takeLake 76 = .ok (.getfield 83, 3) := by decide +kernel
theorem dX12_takeLake_79 : decode cX12_takeLake 79 = .ok (.iload_n 1, 1) := by decide +kernel
theorem dX12_takeLake_80 : decode cX12_takeLake 80 = .ok (.iconst 0, 1) := by decide +kernel
theorem dX12_takeLake_81 : decode cX12_takeLake 81 = .ok (.bastore, 1) := by decide +kernel
theorem dX12_takeLake_82 : decode cX12_takeLake 82 = .ok (.iinc 1 1, 3) := by decide +kernel
theorem dX12_takeLake_85 : decode cX12_takeLake 85 = .ok (.goto (-29), 3) := by decide +kernel
theorem dX12_takeLake_88 : decode cX12_takeLake 88 = .ok (.iconst 0, 1) := by decide +kernel
theorem dX12_takeLake_89 : decode cX12_takeLake 89 = .ok (.istore_n 1, 1) := by decide +kernel
theorem dX12_takeLake_90 : decode cX12_takeLake 90 = .ok (.iload_n 1, 1) := by decide +kernel
theorem dX12_takeLake_91 : decode cX12_takeLake 91 = .ok (.bipush 16, 2) := by decide +kernel
theorem dX12_takeLake_93 : decode cX12_takeLake 93 = .ok (.if_icmp .ge 16, 3) := by decide +kernel
theorem dX12_takeLake_96 : decode cX12_takeLake 96 = .ok (.aload_n 0, 1) := by decide +kernel
theorem dX12_takeLake_97 : decode cX12_takeLake 97 = .ok (.getfield 52, 3) := by decide +kernel
theorem dX12_takeLake_100 : decode cX12_takeLake 100 = .ok (.iload_n 1, 1) := by decide +kernel
theorem dX12_takeLake_101 : decode cX12_takeLake 101 = .ok (.iconst 0, 1) := by decide +kernel
theorem dX12_takeLake_102 : decode cX12_takeLake 102 = .ok (.iastore, 1) := by decide +kernel
theorem dX12_takeLake_103 : decode cX12_takeLake 103 = .ok (.iinc 1 1, 3) := by decide +kernel
theorem dX12_takeLake_106 : decode cX12_takeLake 106 = .ok (.goto (-16), 3) := by decide +kernel
theorem dX12_takeLake_109 : decode cX12_takeLake 109 = .ok (.aload_n 0, 1) := by decide +kernel
theorem dX12_takeLake_110 : decode cX12_takeLake 110 = .ok (.iconst 0, 1) := by decide +kernel
theorem dX12_takeLake_111 : decode cX12_takeLake 111 = .ok (.putfield 315, 3) := by decide +kernel
theorem dX12_takeLake_114 : decode cX12_takeLake 114 = .ok (.aload_n 0, 1) := by decide +kernel
theorem dX12_takeLake_115 : decode cX12_takeLake 115 = .ok (.iconst 0, 1) := by decide +kernel
theorem dX12_takeLake_116 : decode cX12_takeLake 116 = .ok (.putfield 319, 3) := by decide +kernel
theorem dX12_takeLake_119 : decode cX12_takeLake 119 = .ok (.aload_n 0, 1) := by decide +kernel
theorem dX12_takeLake_120 : decode cX12_takeLake 120 = .ok (.iconst 0, 1) := by decide +kernel
theorem dX12_takeLake_121 : decode cX12_takeLake 121 = .ok (.putfield 322, 3) := by decide +kernel
theorem dX12_takeLake_124 : decode cX12_takeLake 124 = .ok (.aload_n 0, 1) := by decide +kernel
theorem dX12_takeLake_125 : decode cX12_takeLake 125 = .ok (.iconst 0, 1) := by decide +kernel
theorem dX12_takeLake_126 : decode cX12_takeLake 126 = .ok (.putfield 325, 3) := by decide +kernel
theorem dX12_takeLake_129 : decode cX12_takeLake 129 = .ok (.aload_n 0, 1) := by decide +kernel
theorem dX12_takeLake_130 : decode cX12_takeLake 130 = .ok (.iconst 0, 1) := by decide +kernel
theorem dX12_takeLake_131 : decode cX12_takeLake 131 = .ok (.putfield 328, 3) := by decide +kernel
theorem dX12_takeLake_134 : decode cX12_takeLake 134 = .ok (.aload_n 0, 1) := by decide +kernel
theorem dX12_takeLake_135 : decode cX12_takeLake 135 = .ok (.iconst 0, 1) := by decide +kernel
theorem dX12_takeLake_136 : decode cX12_takeLake 136 = .ok (.putfield 331, 3) := by decide +kernel
theorem dX12_takeLake_139 : decode cX12_takeLake 139 = .ok (.aload_n 0, 1) := by decide +kernel
theorem dX12_takeLake_140 : decode cX12_takeLake 140 = .ok (.iconst 0, 1) := by decide +kernel
theorem dX12_takeLake_141 : decode cX12_takeLake 141 = .ok (.putfield 334, 3) := by decide +kernel
theorem dX12_takeLake_144 : decode cX12_takeLake 144 = .ok (.aload_n 0, 1) := by decide +kernel
theorem dX12_takeLake_145 : decode cX12_takeLake 145 = .ok (.getfield 306, 3) := by decide +kernel
theorem dX12_takeLake_148 : decode cX12_takeLake 148 = .ok (.ireturn, 1) := by decide +kernel
theorem dX12_text_0 : decode cX12_text 0 = .ok (.iload_n 1, 1) := by decide +kernel
theorem dX12_text_1 : decode cX12_text 1 = .ok (.ifCond .ne 21, 3) := by decide +kernel
theorem dX12_text_4 : decode cX12_text 4 = .ok (.aload_n 0, 1) := by decide +kernel
theorem dX12_text_5 : decode cX12_text 5 = .ok (.invokevirtual 300, 3) := by decide +kernel
theorem dX12_text_8 : decode cX12_text 8 = .ok (.iconst (-1), 1) := by decide +kernel
theorem dX12_text_9 : decode cX12_text 9 = .ok (.if_icmp .ne 13, 3) := by decide +kernel
theorem dX12_text_12 : decode cX12_text 12 = .ok (.aload_n 0, 1) := by decide +kernel
theorem dX12_text_13 : decode cX12_text 13 = .ok (.iconst 0, 1) := by decide +kernel
theorem dX12_text_14 : decode cX12_text 14 = .ok (.putfield 161, 3) := by decide +kernel
theorem dX12_text_17 : decode cX12_text 17 = .ok (.aload_n 0, 1) := by decide +kernel
theorem dX12_text_18 : decode cX12_text 18 = .ok (.invokevirtual 337, 3) := by decide +kernel
theorem dX12_text_21 : decode cX12_text 21 = .ok (.ireturn, 1) := by decide +kernel
theorem dX12_text_22 : decode cX12_text 22 = .ok (.iload_n 1, 1) := by decide +kernel
theorem dX12_text_23 : decode cX12_text 23 = .ok (.iconst 1, 1) := by decide +kernel
theorem dX12_text_24 : decode cX12_text 24 = .ok (.if_icmp .ne 45, 3) := by decide +kernel
theorem dX12_text_27 : decode cX12_text 27 = .ok (.aload_n 0, 1) := by decide +kernel
theorem dX12_text_28 : decode cX12_text 28 = .ok (.getfield 340, 3) := by decide +kernel
theorem dX12_text_31 : decode cX12_text 31 = .ok (.iconst 4, 1) := by decide +kernel
theorem dX12_text_32 : decode cX12_text 32 = .ok (.if_icmp .ge 37, 3) := by decide +kernel
theorem dX12_text_35 : decode cX12_text 35 = .ok (.aload_n 0, 1) := by decide +kernel
theorem dX12_text_36 : decode cX12_text 36 = .ok (.aload_n 0, 1) := by decide +kernel
theorem dX12_text_37 : decode cX12_text 37 = .ok (.getfield 340, 3) := by decide +kernel
theorem dX12_text_40 : decode cX12_text 40 = .ok (.invokevirtual 303, 3) := by decide +kernel
theorem dX12_text_43 : decode cX12_text 43 = .ok (.iconst (-1), 1) := by decide +kernel
theorem dX12_text_44 : decode cX12_text 44 = .ok (.if_icmp .ne 25, 3) := by decide +kernel
theorem dX12_text_47 : decode cX12_text 47 = .ok (.aload_n 0, 1) := by decide +kernel
theorem dX12_text_48 : decode cX12_text 48 = .ok (.iconst 0, 1) := by decide +kernel
theorem dX12_text_49 : decode cX12_text 49 = .ok (.putfield 161, 3) := by decide +kernel
theorem dX12_text_52 : decode cX12_text 52 = .ok (.aload_n 0, 1) := by decide +kernel
theorem dX12_text_53 : decode cX12_text 53 = .ok (.dup, 1) := by decide +kernel
theorem dX12_text_54 : decode cX12_text 54 = .ok (.getfield 340, 3) := by decide +kernel
theorem dX12_text_57 : decode cX12_text 57 = .ok (.iconst 1, 1) := by decide +kernel
theorem dX12_text_58 : decode cX12_text 58 = .ok (.iadd, 1) := by decide +kernel
theorem dX12_text_59 : decode cX12_text 59 = .ok (.putfield 340, 3) := by decide +kernel
theorem dX12_text_62 : decode cX12_text 62 = .ok (.aload_n 0, 1) := by decide +kernel
theorem dX12_text_63 : decode cX12_text 63 = .ok (.getfield 340, 3) := by decide +kernel
theorem dX12_text_66 : decode cX12_text 66 = .ok (.iconst 1, 1) := by decide +kernel
theorem dX12_text_67 : decode cX12_text 67 = .ok (.isub, 1) := by decide +kernel
theorem dX12_text_68 : decode cX12_text 68 = .ok (.ireturn, 1) := by decide +kernel
theorem dX12_text_69 : decode cX12_text 69 = .ok (.iconst (-1), 1) := by decide +kernel
theorem dX12_text_70 : decode cX12_text 70 = .ok (.ireturn, 1) := by decide +kernel
theorem dX12_isPlace_0 : decode cX12_isPlace 0 = .ok (.iload_n 1, 1) := by decide +kernel
theorem dX12_isPlace_1 : decode cX12_isPlace 1 = .ok (.iconst 0, 1) := by decide +kernel
theorem dX12_isPlace_2 : decode cX12_isPlace 2 = .ok (.aload_n 0, 1) := by decide +kernel
theorem dX12_isPlace_3 : decode cX12_isPlace 3 = .ok (.getfield 306, 3) := by decide +kernel
theorem dX12_isPlace_6 : decode cX12_isPlace 6 = .ok (.iconst 1, 1) := by decide +kernel
theorem dX12_isPlace_7 : decode cX12_isPlace 7 = .ok (.isub, 1) := by decide +kernel
theorem dX12_isPlace_8 : decode cX12_isPlace 8 = .ok (.invokestatic 269, 3) := by decide +kernel
theorem dX12_isPlace_11 : decode cX12_isPlace 11 = .ok (.ireturn, 1) := by decide +kernel
theorem dX12_of_0 : decode cX12_of 0 = .ok (.aload_n 0, 1) := by decide +kernel
theorem dX12_of_1 : decode cX12_of 1 = .ok (.getfield 46, 3) := by decide +kernel
theorem dX12_of_4 : decode cX12_of 4 = .ok (.iconst 4, 1) := by decide +kernel
theorem dX12_of_5 : decode cX12_of 5 = .ok (.iload_n 1, 1) := by decide +kernel
theorem dX12_of_6 : decode cX12_of 6 = .ok (.imul, 1) := by decide +kernel
theorem dX12_of_7 : decode cX12_of 7 = .ok (.iload_n 2, 1) := by decide +kernel
theorem dX12_of_8 : decode cX12_of 8 = .ok (.iadd, 1) := by decide +kernel
theorem dX12_of_9 : decode cX12_of 9 = .ok (.iaload, 1) := by decide +kernel
theorem dX12_of_10 : decode cX12_of 10 = .ok (.ireturn, 1) := by decide +kernel
theorem dX12_worthAt_0 : decode cX12_worthAt 0 = .ok (.aload_n 0, 1) := by decide +kernel
theorem dX12_worthAt_1 : decode cX12_worthAt 1 = .ok (.getfield 55, 3) := by decide +kernel
theorem dX12_worthAt_4 : decode cX12_worthAt 4 = .ok (.iconst (-1), 1) := by decide +kernel
theorem dX12_worthAt_5 : decode cX12_worthAt 5 = .ok (.if_icmp .ne 10, 3) := by decide +kernel
theorem dX12_worthAt_8 : decode cX12_worthAt 8 = .ok (.aload_n 0, 1) := by decide +kernel
theorem dX12_worthAt_9 : decode cX12_worthAt 9 = .ok (.iload_n 1, 1) := by decide +kernel
theorem dX12_worthAt_10 : decode cX12_worthAt 10 = .ok (.iconst 3, 1) := by decide +kernel
theorem dX12_worthAt_11 : decode cX12_worthAt 11 = .ok (.invokevirtual 343, 3) := by decide +kernel
theorem dX12_worthAt_14 : decode cX12_worthAt 14 = .ok (.ireturn, 1) := by decide +kernel
theorem dX12_worthAt_15 : decode cX12_worthAt 15 = .ok (.aload_n 0, 1) := by decide +kernel
theorem dX12_worthAt_16 : decode cX12_worthAt 16 = .ok (.getfield 34, 3) := by decide +kernel
theorem dX12_worthAt_19 : decode cX12_worthAt 19 = .ok (.iconst 0, 1) := by decide +kernel
theorem dX12_worthAt_20 : decode cX12_worthAt 20 = .ok (.aload_n 0, 1) := by decide +kernel
theorem dX12_worthAt_21 : decode cX12_worthAt 21 = .ok (.iload_n 1, 1) := by decide +kernel
theorem dX12_worthAt_22 : decode cX12_worthAt 22 = .ok (.iconst 3, 1) := by decide +kernel
theorem dX12_worthAt_23 : decode cX12_worthAt 23 = .ok (.invokevirtual 343, 3) := by decide +kernel
theorem dX12_worthAt_26 : decode cX12_worthAt 26 = .ok (.iastore, 1) := by decide +kernel
theorem dX12_worthAt_27 : decode cX12_worthAt 27 = .ok (.aload_n 0, 1) := by decide +kernel
theorem dX12_worthAt_28 : decode cX12_worthAt 28 = .ok (.getfield 34, 3) := by decide +kernel
theorem dX12_worthAt_31 : decode cX12_worthAt 31 = .ok (.iconst 1, 1) := by decide +kernel
theorem dX12_worthAt_32 : decode cX12_worthAt 32 = .ok (.iload_n 1, 1) := by decide +kernel
theorem dX12_worthAt_33 : decode cX12_worthAt 33 = .ok (.iastore, 1) := by decide +kernel
theorem dX12_worthAt_34 : decode cX12_worthAt 34 = .ok (.aload_n 0, 1) := by decide +kernel
theorem dX12_worthAt_35 : decode cX12_worthAt 35 = .ok (.getfield 34, 3) := by decide +kernel
theorem dX12_worthAt_38 : decode cX12_worthAt 38 = .ok (.iconst 2, 1) := by decide +kernel
theorem dX12_worthAt_39 : decode cX12_worthAt 39 = .ok (.aload_n 0, 1) := by decide +kernel
theorem dX12_worthAt_40 : decode cX12_worthAt 40 = .ok (.iload_n 1, 1) := by decide +kernel
theorem dX12_worthAt_41 : decode cX12_worthAt 41 = .ok (.iconst 1, 1) := by decide +kernel
theorem dX12_worthAt_42 : decode cX12_worthAt 42 = .ok (.invokevirtual 343, 3) := by decide +kernel
theorem dX12_worthAt_45 : decode cX12_worthAt 45 = .ok (.iastore, 1) := by decide +kernel
theorem dX12_worthAt_46 : decode cX12_worthAt 46 = .ok (.aload_n 0, 1) := by decide +kernel
theorem dX12_worthAt_47 : decode cX12_worthAt 47 = .ok (.getfield 34, 3) := by decide +kernel
theorem dX12_worthAt_50 : decode cX12_worthAt 50 = .ok (.iconst 3, 1) := by decide +kernel
theorem dX12_worthAt_51 : decode cX12_worthAt 51 = .ok (.aload_n 0, 1) := by decide +kernel
theorem dX12_worthAt_52 : decode cX12_worthAt 52 = .ok (.iload_n 1, 1) := by decide +kernel
theorem dX12_worthAt_53 : decode cX12_worthAt 53 = .ok (.iconst 2, 1) := by decide +kernel
theorem dX12_worthAt_54 : decode cX12_worthAt 54 = .ok (.invokevirtual 343, 3) := by decide +kernel
theorem dX12_worthAt_57 : decode cX12_worthAt 57 = .ok (.iastore, 1) := by decide +kernel
theorem dX12_worthAt_58 : decode cX12_worthAt 58 = .ok (.aload_n 0, 1) := by decide +kernel
theorem dX12_worthAt_59 : decode cX12_worthAt 59 = .ok (.getfield 34, 3) := by decide +kernel
theorem dX12_worthAt_62 : decode cX12_worthAt 62 = .ok (.iconst 4, 1) := by decide +kernel
theorem dX12_worthAt_63 : decode cX12_worthAt 63 = .ok (.aload_n 0, 1) := by decide +kernel
theorem dX12_worthAt_64 : decode cX12_worthAt 64 = .ok (.iload_n 1, 1) := by decide +kernel
theorem dX12_worthAt_65 : decode cX12_worthAt 65 = .ok (.iconst 0, 1) := by decide +kernel
theorem dX12_worthAt_66 : decode cX12_worthAt 66 = .ok (.invokevirtual 343, 3) := by decide +kernel
theorem dX12_worthAt_69 : decode cX12_worthAt 69 = .ok (.iastore, 1) := by decide +kernel
theorem dX12_worthAt_70 : decode cX12_worthAt 70 = .ok (.iconst 0, 1) := by decide +kernel
theorem dX12_worthAt_71 : decode cX12_worthAt 71 = .ok (.sipush 999, 3) := by decide +kernel
theorem dX12_worthAt_74 : decode cX12_worthAt 74 = .ok (.aload_n 0, 1) := by decide +kernel
theorem dX12_worthAt_75 : decode cX12_worthAt 75 = .ok (.aload_n 0, 1) := by decide +kernel
theorem dX12_worthAt_76 : decode cX12_worthAt 76 = .ok (.getfield 55, 3) := by decide +kernel
theorem dX12_worthAt_79 : decode cX12_worthAt 79 = .ok (.invokevirtual 346, 3) := by decide +kernel
theorem dX12_worthAt_82 : decode cX12_worthAt 82 = .ok (.invokestatic 349, 3) := by decide +kernel
theorem dX12_worthAt_85 : decode cX12_worthAt 85 = .ok (.invokestatic 351, 3) := by decide +kernel
theorem dX12_worthAt_88 : decode cX12_worthAt 88 = .ok (.ireturn, 1) := by decide +kernel
theorem dX12_place_0 : decode cX12_place 0 = .ok (.aload_n 0, 1) := by decide +kernel
theorem dX12_place_1 : decode cX12_place 1 = .ok (.aload_n 0, 1) := by decide +kernel
theorem dX12_place_2 : decode cX12_place 2 = .ok (.iload_n 1, 1) := by decide +kernel
theorem dX12_place_3 : decode cX12_place 3 = .ok (.invokevirtual 353, 3) := by decide +kernel
theorem dX12_place_6 : decode cX12_place 6 = .ok (.ifCond .eq 16, 3) := by decide +kernel
theorem dX12_place_9 : decode cX12_place 9 = .ok (.iload_n 2, 1) := by decide +kernel
theorem dX12_place_10 : decode cX12_place 10 = .ok (.iconst 0, 1) := by decide +kernel
theorem dX12_place_11 : decode cX12_place 11 = .ok (.iconst 4, 1) := by decide +kernel
theorem dX12_place_12 : decode cX12_place 12 = .ok (.invokestatic 269, 3) := by decide +kernel
theorem dX12_place_15 : decode cX12_place 15 = .ok (.ifCond .eq 7, 3) := by decide +kernel
theorem dX12_place_18 : decode cX12_place 18 = .ok (.iconst 0, 1) := by decide +kernel
theorem dX12_place_19 : decode cX12_place 19 = .ok (.goto 4, 3) := by decide +kernel
theorem dX12_place_22 : decode cX12_place 22 = .ok (.iconst 1, 1) := by decide +kernel
theorem dX12_place_23 : decode cX12_place 23 = .ok (.putfield 154, 3) := by decide +kernel
theorem dX12_place_26 : decode cX12_place 26 = .ok (.aload_n 0, 1) := by decide +kernel
theorem dX12_place_27 : decode cX12_place 27 = .ok (.getfield 154, 3) := by decide +kernel
theorem dX12_place_30 : decode cX12_place 30 = .ok (.iconst 1, 1) := by decide +kernel
theorem dX12_place_31 : decode cX12_place 31 = .ok (.if_icmp .ne 7, 3) := by decide +kernel
theorem dX12_place_34 : decode cX12_place 34 = .ok (.iconst 0, 1) := by decide +kernel
theorem dX12_place_35 : decode cX12_place 35 = .ok (.goto 22, 3) := by decide +kernel
theorem dX12_place_38 : decode cX12_place 38 = .ok (.iload_n 2, 1) := by decide +kernel
theorem dX12_place_39 : decode cX12_place 39 = .ok (.iconst 4, 1) := by decide +kernel
theorem dX12_place_40 : decode cX12_place 40 = .ok (.if_icmp .ge 12, 3) := by decide +kernel
theorem dX12_place_43 : decode cX12_place 43 = .ok (.aload_n 0, 1) := by decide +kernel
theorem dX12_place_44 : decode cX12_place 44 = .ok (.iload_n 1, 1) := by decide +kernel
theorem dX12_place_45 : decode cX12_place 45 = .ok (.iload_n 2, 1) := by decide +kernel
theorem dX12_place_46 : decode cX12_place 46 = .ok (.invokevirtual 343, 3) := by decide +kernel
theorem dX12_place_49 : decode cX12_place 49 = .ok (.goto 8, 3) := by decide +kernel
theorem dX12_place_52 : decode cX12_place 52 = .ok (.aload_n 0, 1) := by decide +kernel
theorem dX12_place_53 : decode cX12_place 53 = .ok (.iload_n 1, 1) := by decide +kernel
theorem dX12_place_54 : decode cX12_place 54 = .ok (.invokevirtual 356, 3) := by decide +kernel
theorem dX12_place_57 : decode cX12_place 57 = .ok (.ireturn, 1) := by decide +kernel
theorem dX12_worth_0 : decode cX12_worth 0 = .ok (.iload_n 1, 1) := by decide +kernel
theorem dX12_worth_1 : decode cX12_worth 1 = .ok (.iconst (-1), 1) := by decide +kernel
theorem dX12_worth_2 : decode cX12_worth 2 = .ok (.aload_n 0, 1) := by decide +kernel
theorem dX12_worth_3 : decode cX12_worth 3 = .ok (.getfield 340, 3) := by decide +kernel
theorem dX12_worth_6 : decode cX12_worth 6 = .ok (.iconst 1, 1) := by decide +kernel
theorem dX12_worth_7 : decode cX12_worth 7 = .ok (.isub, 1) := by decide +kernel
theorem dX12_worth_8 : decode cX12_worth 8 = .ok (.invokestatic 269, 3) := by decide +kernel
theorem dX12_worth_11 : decode cX12_worth 11 = .ok (.ifCond .ne 5, 3) := by decide +kernel
theorem dX12_worth_14 : decode cX12_worth 14 = .ok (.iconst 0, 1) := by decide +kernel
theorem dX12_worth_15 : decode cX12_worth 15 = .ok (.ireturn, 1) := by decide +kernel
theorem dX12_worth_16 : decode cX12_worth 16 = .ok (.aload_n 0, 1) := by decide +kernel
theorem dX12_worth_17 : decode cX12_worth 17 = .ok (.iload_n 1, 1) := by decide +kernel
theorem dX12_worth_18 : decode cX12_worth 18 = .ok (.putfield 55, 3) := by decide +kernel
theorem dX12_worth_21 : decode cX12_worth 21 = .ok (.iconst 1, 1) := by decide +kernel
theorem dX12_worth_22 : decode cX12_worth 22 = .ok (.ireturn, 1) := by decide +kernel
theorem dX12_set_0 : decode cX12_set 0 = .ok (.aload_n 0, 1) := by decide +kernel
theorem dX12_set_1 : decode cX12_set 1 = .ok (.getfield 306, 3) := by decide +kernel
theorem dX12_set_4 : decode cX12_set 4 = .ok (.ifCond .eq 55, 3) := by decide +kernel
theorem dX12_set_7 : decode cX12_set 7 = .ok (.iload_n 1, 1) := by decide +kernel
theorem dX12_set_8 : decode cX12_set 8 = .ok (.iconst 0, 1) := by decide +kernel
theorem dX12_set_9 : decode cX12_set 9 = .ok (.iconst 3, 1) := by decide +kernel
theorem dX12_set_10 : decode cX12_set 10 = .ok (.invokestatic 269, 3) := by decide +kernel
theorem dX12_set_13 : decode cX12_set 13 = .ok (.ifCond .eq 46, 3) := by decide +kernel
theorem dX12_set_16 : decode cX12_set 16 = .ok (.iload_n 2, 1) := by decide +kernel
theorem dX12_set_17 : decode cX12_set 17 = .ok (.iload_n 1, 1) := by decide +kernel
theorem dX12_set_18 : decode cX12_set 18 = .ok (.ifCond .ne 10, 3) := by decide +kernel
theorem dX12_set_21 : decode cX12_set 21 = .ok (.aload_n 0, 1) := by decide +kernel
theorem dX12_set_22 : decode cX12_set 22 = .ok (.getfield 315, 3) := by decide +kernel
theorem dX12_set_25 : decode cX12_set 25 = .ok (.goto 31, 3) := by decide +kernel
theorem dX12_set_28 : decode cX12_set 28 = .ok (.iload_n 1, 1) := by decide +kernel
theorem dX12_set_29 : decode cX12_set 29 = .ok (.iconst 1, 1) := by decide +kernel
theorem dX12_set_30 : decode cX12_set 30 = .ok (.if_icmp .ne 10, 3) := by decide +kernel
theorem dX12_set_33 : decode cX12_set 33 = .ok (.aload_n 0, 1) := by decide +kernel
theorem dX12_set_34 : decode cX12_set 34 = .ok (.getfield 319, 3) := by decide +kernel
theorem dX12_set_37 : decode cX12_set 37 = .ok (.goto 19, 3) := by decide +kernel
theorem dX12_set_40 : decode cX12_set 40 = .ok (.iload_n 1, 1) := by decide +kernel
theorem dX12_set_41 : decode cX12_set 41 = .ok (.iconst 2, 1) := by decide +kernel
theorem dX12_set_42 : decode cX12_set 42 = .ok (.if_icmp .ne 10, 3) := by decide +kernel
theorem dX12_set_45 : decode cX12_set 45 = .ok (.aload_n 0, 1) := by decide +kernel
theorem dX12_set_46 : decode cX12_set 46 = .ok (.getfield 322, 3) := by decide +kernel
theorem dX12_set_49 : decode cX12_set 49 = .ok (.goto 7, 3) := by decide +kernel
theorem dX12_set_52 : decode cX12_set 52 = .ok (.aload_n 0, 1) := by decide +kernel
theorem dX12_set_53 : decode cX12_set 53 = .ok (.getfield 325, 3) := by decide +kernel
theorem dX12_set_56 : decode cX12_set 56 = .ok (.if_icmp .ne 5, 3) := by decide +kernel
theorem dX12_set_59 : decode cX12_set 59 = .ok (.iconst 0, 1) := by decide +kernel
theorem dX12_set_60 : decode cX12_set 60 = .ok (.ireturn, 1) := by decide +kernel
theorem dX12_set_61 : decode cX12_set 61 = .ok (.aload_n 0, 1) := by decide +kernel
theorem dX12_set_62 : decode cX12_set 62 = .ok (.iload_n 1, 1) := by decide +kernel
theorem dX12_set_63 : decode cX12_set 63 = .ok (.ifCond .ne 7, 3) := by decide +kernel
theorem dX12_set_66 : decode cX12_set 66 = .ok (.iload_n 2, 1) := by decide +kernel
theorem dX12_set_67 : decode cX12_set 67 = .ok (.goto 7, 3) := by decide +kernel
theorem dX12_set_70 : decode cX12_set 70 = .ok (.aload_n 0, 1) := by decide +kernel
theorem dX12_set_71 : decode cX12_set 71 = .ok (.getfield 315, 3) := by decide +kernel
theorem dX12_set_74 : decode cX12_set 74 = .ok (.putfield 315, 3) := by decide +kernel
theorem dX12_set_77 : decode cX12_set 77 = .ok (.aload_n 0, 1) := by decide +kernel
theorem dX12_set_78 : decode cX12_set 78 = .ok (.iload_n 1, 1) := by decide +kernel
theorem dX12_set_79 : decode cX12_set 79 = .ok (.iconst 1, 1) := by decide +kernel
theorem dX12_set_80 : decode cX12_set 80 = .ok (.if_icmp .ne 7, 3) := by decide +kernel
theorem dX12_set_83 : decode cX12_set 83 = .ok (.iload_n 2, 1) := by decide +kernel
theorem dX12_set_84 : decode cX12_set 84 = .ok (.goto 7, 3) := by decide +kernel
theorem dX12_set_87 : decode cX12_set 87 = .ok (.aload_n 0, 1) := by decide +kernel
theorem dX12_set_88 : decode cX12_set 88 = .ok (.getfield 319, 3) := by decide +kernel
theorem dX12_set_91 : decode cX12_set 91 = .ok (.putfield 319, 3) := by decide +kernel
theorem dX12_set_94 : decode cX12_set 94 = .ok (.aload_n 0, 1) := by decide +kernel
theorem dX12_set_95 : decode cX12_set 95 = .ok (.iload_n 1, 1) := by decide +kernel
theorem dX12_set_96 : decode cX12_set 96 = .ok (.iconst 2, 1) := by decide +kernel
theorem dX12_set_97 : decode cX12_set 97 = .ok (.if_icmp .ne 7, 3) := by decide +kernel
theorem dX12_set_100 : decode cX12_set 100 = .ok (.iload_n 2, 1) := by decide +kernel
theorem dX12_set_101 : decode cX12_set 101 = .ok (.goto 7, 3) := by decide +kernel
theorem dX12_set_104 : decode cX12_set 104 = .ok (.aload_n 0, 1) := by decide +kernel
theorem dX12_set_105 : decode cX12_set 105 = .ok (.getfield 322, 3) := by decide +kernel
theorem dX12_set_108 : decode cX12_set 108 = .ok (.putfield 322, 3) := by decide +kernel
theorem dX12_set_111 : decode cX12_set 111 = .ok (.aload_n 0, 1) := by decide +kernel
theorem dX12_set_112 : decode cX12_set 112 = .ok (.iload_n 1, 1) := by decide +kernel
theorem dX12_set_113 : decode cX12_set 113 = .ok (.iconst 3, 1) := by decide +kernel
theorem dX12_set_114 : decode cX12_set 114 = .ok (.if_icmp .ne 7, 3) := by decide +kernel
theorem dX12_set_117 : decode cX12_set 117 = .ok (.iload_n 2, 1) := by decide +kernel
theorem dX12_set_118 : decode cX12_set 118 = .ok (.goto 7, 3) := by decide +kernel
theorem dX12_set_121 : decode cX12_set 121 = .ok (.aload_n 0, 1) := by decide +kernel
theorem dX12_set_122 : decode cX12_set 122 = .ok (.getfield 325, 3) := by decide +kernel
theorem dX12_set_125 : decode cX12_set 125 = .ok (.putfield 325, 3) := by decide +kernel
theorem dX12_set_128 : decode cX12_set 128 = .ok (.iconst 1, 1) := by decide +kernel
theorem dX12_set_129 : decode cX12_set 129 = .ok (.ireturn, 1) := by decide +kernel
theorem dX12_spreadOut_0 : decode cX12_spreadOut 0 = .ok (.iload_n 0, 1) := by decide +kernel
theorem dX12_spreadOut_1 : decode cX12_spreadOut 1 = .ok (.istore_n 3, 1) := by decide +kernel
theorem dX12_spreadOut_2 : decode cX12_spreadOut 2 = .ok (.iload_n 0, 1) := by decide +kernel
theorem dX12_spreadOut_3 : decode cX12_spreadOut 3 = .ok (.iconst 0, 1) := by decide +kernel
theorem dX12_spreadOut_4 : decode cX12_spreadOut 4 = .ok (.sipush 9999, 3) := by decide +kernel
theorem dX12_spreadOut_7 : decode cX12_spreadOut 7 = .ok (.invokestatic 269, 3) := by decide +kernel
theorem dX12_spreadOut_10 : decode cX12_spreadOut 10 = .ok (.istore 4, 2) := by decide +kernel
theorem dX12_spreadOut_12 : decode cX12_spreadOut 12 = .ok (.iconst 3, 1) := by decide +kernel
theorem dX12_spreadOut_13 : decode cX12_spreadOut 13 = .ok (.istore 5, 2) := by decide +kernel
theorem dX12_spreadOut_15 : decode cX12_spreadOut 15 = .ok (.iload 5, 2) := by decide +kernel
theorem dX12_spreadOut_17 : decode cX12_spreadOut 17 = .ok (.ifCond .lt 42, 3) := by decide +kernel
theorem dX12_spreadOut_20 : decode cX12_spreadOut 20 = .ok (.iload 4, 2) := by decide +kernel
theorem dX12_spreadOut_22 : decode cX12_spreadOut 22 = .ok (.ifCond .eq 15, 3) := by decide +kernel
theorem dX12_spreadOut_25 : decode cX12_spreadOut 25 = .ok (.iload_n 3, 1) := by decide +kernel
theorem dX12_spreadOut_26 : decode cX12_spreadOut 26 = .ok (.bipush 10, 2) := by decide +kernel
theorem dX12_spreadOut_28 : decode cX12_spreadOut 28 = .ok (.irem, 1) := by decide +kernel
theorem dX12_spreadOut_29 : decode cX12_spreadOut 29 = .ok (.iload_n 1, 1) := by decide +kernel
theorem dX12_spreadOut_30 : decode cX12_spreadOut 30 = .ok (.if_icmp .ge 7, 3) := by decide +kernel
theorem dX12_spreadOut_33 : decode cX12_spreadOut 33 = .ok (.iconst 1, 1) := by decide +kernel
theorem dX12_spreadOut_34 : decode cX12_spreadOut 34 = .ok (.goto 4, 3) := by decide +kernel
theorem dX12_spreadOut_37 : decode cX12_spreadOut 37 = .ok (.iconst 0, 1) := by decide +kernel
theorem dX12_spreadOut_38 : decode cX12_spreadOut 38 = .ok (.istore 4, 2) := by decide +kernel
theorem dX12_spreadOut_40 : decode cX12_spreadOut 40 = .ok (.aload_n 2, 1) := by decide +kernel
theorem dX12_spreadOut_41 : decode cX12_spreadOut 41 = .ok (.iload 5, 2) := by decide +kernel
theorem dX12_spreadOut_43 : decode cX12_spreadOut 43 = .ok (.iload_n 3, 1) := by decide +kernel
theorem dX12_spreadOut_44 : decode cX12_spreadOut 44 = .ok (.bipush 10, 2) := by decide +kernel
theorem dX12_spreadOut_46 : decode cX12_spreadOut 46 = .ok (.irem, 1) := by decide +kernel
theorem dX12_spreadOut_47 : decode cX12_spreadOut 47 = .ok (.iastore, 1) := by decide +kernel
theorem dX12_spreadOut_48 : decode cX12_spreadOut 48 = .ok (.iload_n 3, 1) := by decide +kernel
theorem dX12_spreadOut_49 : decode cX12_spreadOut 49 = .ok (.bipush 10, 2) := by decide +kernel
theorem dX12_spreadOut_51 : decode cX12_spreadOut 51 = .ok (.idiv, 1) := by decide +kernel
theorem dX12_spreadOut_52 : decode cX12_spreadOut 52 = .ok (.istore_n 3, 1) := by decide +kernel
theorem dX12_spreadOut_53 : decode cX12_spreadOut 53 = .ok (.iinc 5 (-1), 3) := by decide +kernel
theorem dX12_spreadOut_56 : decode cX12_spreadOut 56 = .ok (.goto (-41), 3) := by decide +kernel
theorem dX12_spreadOut_59 : decode cX12_spreadOut 59 = .ok (.iload 4, 2) := by decide +kernel
theorem dX12_spreadOut_61 : decode cX12_spreadOut 61 = .ok (.ireturn, 1) := by decide +kernel
theorem dX12_packed_0 : decode cX12_packed 0 = .ok (.iconst 0, 1) := by decide +kernel
theorem dX12_packed_1 : decode cX12_packed 1 = .ok (.istore_n 1, 1) := by decide +kernel
theorem dX12_packed_2 : decode cX12_packed 2 = .ok (.iconst 0, 1) := by decide +kernel
theorem dX12_packed_3 : decode cX12_packed 3 = .ok (.istore_n 2, 1) := by decide +kernel
theorem dX12_packed_4 : decode cX12_packed 4 = .ok (.iload_n 2, 1) := by decide +kernel
theorem dX12_packed_5 : decode cX12_packed 5 = .ok (.iconst 4, 1) := by decide +kernel
theorem dX12_packed_6 : decode cX12_packed 6 = .ok (.if_icmp .ge 18, 3) := by decide +kernel
theorem dX12_packed_9 : decode cX12_packed 9 = .ok (.bipush 10, 2) := by decide +kernel
theorem dX12_packed_11 : decode cX12_packed 11 = .ok (.iload_n 1, 1) := by decide +kernel
theorem dX12_packed_12 : decode cX12_packed 12 = .ok (.imul, 1) := by decide +kernel
theorem dX12_packed_13 : decode cX12_packed 13 = .ok (.aload_n 0, 1) := by decide +kernel
theorem dX12_packed_14 : decode cX12_packed 14 = .ok (.iload_n 2, 1) := by decide +kernel
theorem dX12_packed_15 : decode cX12_packed 15 = .ok (.iaload, 1) := by decide +kernel
theorem dX12_packed_16 : decode cX12_packed 16 = .ok (.iadd, 1) := by decide +kernel
theorem dX12_packed_17 : decode cX12_packed 17 = .ok (.istore_n 1, 1) := by decide +kernel
theorem dX12_packed_18 : decode cX12_packed 18 = .ok (.iinc 2 1, 3) := by decide +kernel
theorem dX12_packed_21 : decode cX12_packed 21 = .ok (.goto (-17), 3) := by decide +kernel
theorem dX12_packed_24 : decode cX12_packed 24 = .ok (.iload_n 1, 1) := by decide +kernel
theorem dX12_packed_25 : decode cX12_packed 25 = .ok (.ireturn, 1) := by decide +kernel
theorem dX12_tugs_0 : decode cX12_tugs 0 = .ok (.aload_n 0, 1) := by decide +kernel
theorem dX12_tugs_1 : decode cX12_tugs 1 = .ok (.getfield 306, 3) := by decide +kernel
theorem dX12_tugs_4 : decode cX12_tugs 4 = .ok (.ifCond .eq 18, 3) := by decide +kernel
theorem dX12_tugs_7 : decode cX12_tugs 7 = .ok (.iload_n 1, 1) := by decide +kernel
theorem dX12_tugs_8 : decode cX12_tugs 8 = .ok (.aload_n 0, 1) := by decide +kernel
theorem dX12_tugs_9 : decode cX12_tugs 9 = .ok (.getfield 309, 3) := by decide +kernel
theorem dX12_tugs_12 : decode cX12_tugs 12 = .ok (.aload_n 0, 1) := by decide +kernel
theorem dX12_tugs_13 : decode cX12_tugs 13 = .ok (.getfield 59, 3) := by decide +kernel
theorem dX12_tugs_16 : decode cX12_tugs 16 = .ok (.invokestatic 359, 3) := by decide +kernel
theorem dX12_tugs_19 : decode cX12_tugs 19 = .ok (.ifCond .ne 5, 3) := by decide +kernel
theorem dX12_tugs_22 : decode cX12_tugs 22 = .ok (.iconst 0, 1) := by decide +kernel
theorem dX12_tugs_23 : decode cX12_tugs 23 = .ok (.ireturn, 1) := by decide +kernel
theorem dX12_tugs_24 : decode cX12_tugs 24 = .ok (.iload_n 1, 1) := by decide +kernel
theorem dX12_tugs_25 : decode cX12_tugs 25 = .ok (.aload_n 0, 1) := by decide +kernel
theorem dX12_tugs_26 : decode cX12_tugs 26 = .ok (.getfield 309, 3) := by decide +kernel
theorem dX12_tugs_29 : decode cX12_tugs 29 = .ok (.aload_n 0, 1) := by decide +kernel
theorem dX12_tugs_30 : decode cX12_tugs 30 = .ok (.getfield 49, 3) := by decide +kernel
theorem dX12_tugs_33 : decode cX12_tugs 33 = .ok (.invokestatic 359, 3) := by decide +kernel
theorem dX12_tugs_36 : decode cX12_tugs 36 = .ok (.pop, 1) := by decide +kernel
theorem dX12_tugs_37 : decode cX12_tugs 37 = .ok (.iconst 1, 1) := by decide +kernel
theorem dX12_tugs_38 : decode cX12_tugs 38 = .ok (.ireturn, 1) := by decide +kernel
theorem dX12_isThrow_0 : decode cX12_isThrow 0 = .ok (.aload_n 0, 1) := by decide +kernel
theorem dX12_isThrow_1 : decode cX12_isThrow 1 = .ok (.getfield 306, 3) := by decide +kernel
theorem dX12_isThrow_4 : decode cX12_isThrow 4 = .ok (.ifCond .le 30, 3) := by decide +kernel
theorem dX12_isThrow_7 : decode cX12_isThrow 7 = .ok (.iload_n 1, 1) := by decide +kernel
theorem dX12_isThrow_8 : decode cX12_isThrow 8 = .ok (.iconst 0, 1) := by decide +kernel
theorem dX12_isThrow_9 : decode cX12_isThrow 9 = .ok (.iconst 3, 1) := by decide +kernel
theorem dX12_isThrow_10 : decode cX12_isThrow 10 = .ok (.invokestatic 269, 3) := by decide +kernel
theorem dX12_isThrow_13 : decode cX12_isThrow 13 = .ok (.ifCond .eq 21, 3) := by decide +kernel
theorem dX12_isThrow_16 : decode cX12_isThrow 16 = .ok (.iload_n 2, 1) := by decide +kernel
theorem dX12_isThrow_17 : decode cX12_isThrow 17 = .ok (.iconst 0, 1) := by decide +kernel
theorem dX12_isThrow_18 : decode cX12_isThrow 18 = .ok (.aload_n 0, 1) := by decide +kernel
theorem dX12_isThrow_19 : decode cX12_isThrow 19 = .ok (.getfield 309, 3) := by decide +kernel
theorem dX12_isThrow_22 : decode cX12_isThrow 22 = .ok (.iconst 1, 1) := by decide +kernel
theorem dX12_isThrow_23 : decode cX12_isThrow 23 = .ok (.isub, 1) := by decide +kernel
theorem dX12_isThrow_24 : decode cX12_isThrow 24 = .ok (.invokestatic 269, 3) := by decide +kernel
theorem dX12_isThrow_27 : decode cX12_isThrow 27 = .ok (.ifCond .eq 7, 3) := by decide +kernel
theorem dX12_isThrow_30 : decode cX12_isThrow 30 = .ok (.iconst 1, 1) := by decide +kernel
theorem dX12_isThrow_31 : decode cX12_isThrow 31 = .ok (.goto 4, 3) := by decide +kernel
theorem dX12_isThrow_34 : decode cX12_isThrow 34 = .ok (.iconst 0, 1) := by decide +kernel
theorem dX12_isThrow_35 : decode cX12_isThrow 35 = .ok (.ireturn, 1) := by decide +kernel
theorem dX12_throwTo_0 : decode cX12_throwTo 0 = .ok (.aload_n 0, 1) := by decide +kernel
theorem dX12_throwTo_1 : decode cX12_throwTo 1 = .ok (.iload_n 1, 1) := by decide +kernel
theorem dX12_throwTo_2 : decode cX12_throwTo 2 = .ok (.iload_n 2, 1) := by decide +kernel
theorem dX12_throwTo_3 : decode cX12_throwTo 3 = .ok (.invokevirtual 363, 3) := by decide +kernel
theorem dX12_throwTo_6 : decode cX12_throwTo 6 = .ok (.ifCond .eq 11, 3) := by decide +kernel
theorem dX12_throwTo_9 : decode cX12_throwTo 9 = .ok (.aload_n 0, 1) := by decide +kernel
theorem dX12_throwTo_10 : decode cX12_throwTo 10 = .ok (.iload_n 3, 1) := by decide +kernel
theorem dX12_throwTo_11 : decode cX12_throwTo 11 = .ok (.invokevirtual 353, 3) := by decide +kernel
theorem dX12_throwTo_14 : decode cX12_throwTo 14 = .ok (.ifCond .ne 5, 3) := by decide +kernel
theorem dX12_throwTo_17 : decode cX12_throwTo 17 = .ok (.iconst 0, 1) := by decide +kernel
theorem dX12_throwTo_18 : decode cX12_throwTo 18 = .ok (.ireturn, 1) := by decide +kernel
theorem dX12_throwTo_19 : decode cX12_throwTo 19 = .ok (.aload_n 0, 1) := by decide +kernel
theorem dX12_throwTo_20 : decode cX12_throwTo 20 = .ok (.getfield 52, 3) := by decide +kernel
theorem dX12_throwTo_23 : decode cX12_throwTo 23 = .ok (.iconst 4, 1) := by decide +kernel
theorem dX12_throwTo_24 : decode cX12_throwTo 24 = .ok (.iload_n 1, 1) := by decide +kernel
theorem dX12_throwTo_25 : decode cX12_throwTo 25 = .ok (.imul, 1) := by decide +kernel
theorem dX12_throwTo_26 : decode cX12_throwTo 26 = .ok (.iload_n 2, 1) := by decide +kernel
theorem dX12_throwTo_27 : decode cX12_throwTo 27 = .ok (.iadd, 1) := by decide +kernel
theorem dX12_throwTo_28 : decode cX12_throwTo 28 = .ok (.iload_n 3, 1) := by decide +kernel
theorem dX12_throwTo_29 : decode cX12_throwTo 29 = .ok (.iastore, 1) := by decide +kernel
theorem dX12_throwTo_30 : decode cX12_throwTo 30 = .ok (.iconst 1, 1) := by decide +kernel
theorem dX12_throwTo_31 : decode cX12_throwTo 31 = .ok (.ireturn, 1) := by decide +kernel
theorem dX12_thrown__0 : decode cX12_thrown_ 0 = .ok (.aload_n 0, 1) := by decide +kernel
theorem dX12_thrown__1 : decode cX12_thrown_ 1 = .ok (.iload_n 1, 1) := by decide +kernel
theorem dX12_thrown__2 : decode cX12_thrown_ 2 = .ok (.iload_n 2, 1) := by decide +kernel
theorem dX12_thrown__3 : decode cX12_thrown_ 3 = .ok (.invokevirtual 363, 3) := by decide +kernel
theorem dX12_thrown__6 : decode cX12_thrown_ 6 = .ok (.ifCond .eq 16, 3) := by decide +kernel
theorem dX12_thrown__9 : decode cX12_thrown_ 9 = .ok (.aload_n 0, 1) := by decide +kernel
theorem dX12_thrown__10 : decode cX12_thrown_ 10 = .ok (.getfield 52, 3) := by decide +kernel
theorem dX12_thrown__13 : decode cX12_thrown_ 13 = .ok (.iconst 4, 1) := by decide +kernel
theorem dX12_thrown__14 : decode cX12_thrown_ 14 = .ok (.iload_n 1, 1) := by decide +kernel
theorem dX12_thrown__15 : decode cX12_thrown_ 15 = .ok (.imul, 1) := by decide +kernel
theorem dX12_thrown__16 : decode cX12_thrown_ 16 = .ok (.iload_n 2, 1) := by decide +kernel
theorem dX12_thrown__17 : decode cX12_thrown_ 17 = .ok (.iadd, 1) := by decide +kernel
theorem dX12_thrown__18 : decode cX12_thrown_ 18 = .ok (.iaload, 1) := by decide +kernel
theorem dX12_thrown__19 : decode cX12_thrown_ 19 = .ok (.goto 4, 3) := by decide +kernel
theorem dX12_thrown__22 : decode cX12_thrown_ 22 = .ok (.iconst (-1), 1) := by decide +kernel
theorem dX12_thrown__23 : decode cX12_thrown_ 23 = .ok (.ireturn, 1) := by decide +kernel
theorem dX12_heard_0 : decode cX12_heard 0 = .ok (.aload_n 0, 1) := by decide +kernel
theorem dX12_heard_1 : decode cX12_heard 1 = .ok (.getfield 319, 3) := by decide +kernel
theorem dX12_heard_4 : decode cX12_heard 4 = .ok (.ifCond .eq 7, 3) := by decide +kernel
theorem dX12_heard_7 : decode cX12_heard 7 = .ok (.iconst 0, 1) := by decide +kernel
theorem dX12_heard_8 : decode cX12_heard 8 = .ok (.goto 9, 3) := by decide +kernel
theorem dX12_heard_11 : decode cX12_heard 11 = .ok (.aload_n 0, 1) := by decide +kernel
theorem dX12_heard_12 : decode cX12_heard 12 = .ok (.iload_n 1, 1) := by decide +kernel
theorem dX12_heard_13 : decode cX12_heard 13 = .ok (.iconst 1, 1) := by decide +kernel
theorem dX12_heard_14 : decode cX12_heard 14 = .ok (.invokevirtual 343, 3) := by decide +kernel
theorem dX12_heard_17 : decode cX12_heard 17 = .ok (.ireturn, 1) := by decide +kernel
theorem dX12_seenAt_0 : decode cX12_seenAt 0 = .ok (.aload_n 0, 1) := by decide +kernel
theorem dX12_seenAt_1 : decode cX12_seenAt 1 = .ok (.getfield 315, 3) := by decide +kernel
theorem dX12_seenAt_4 : decode cX12_seenAt 4 = .ok (.ifCond .eq 7, 3) := by decide +kernel
theorem dX12_seenAt_7 : decode cX12_seenAt 7 = .ok (.iconst 0, 1) := by decide +kernel
theorem dX12_seenAt_8 : decode cX12_seenAt 8 = .ok (.goto 9, 3) := by decide +kernel
theorem dX12_seenAt_11 : decode cX12_seenAt 11 = .ok (.aload_n 0, 1) := by decide +kernel
theorem dX12_seenAt_12 : decode cX12_seenAt 12 = .ok (.iload_n 1, 1) := by decide +kernel
theorem dX12_seenAt_13 : decode cX12_seenAt 13 = .ok (.iconst 2, 1) := by decide +kernel
theorem dX12_seenAt_14 : decode cX12_seenAt 14 = .ok (.invokevirtual 343, 3) := by decide +kernel
theorem dX12_seenAt_17 : decode cX12_seenAt 17 = .ok (.ireturn, 1) := by decide +kernel
theorem dX12_layBrings_0 : decode cX12_layBrings 0 = .ok (.iconst 0, 1) := by decide +kernel
theorem dX12_layBrings_1 : decode cX12_layBrings 1 = .ok (.istore_n 2, 1) := by decide +kernel
theorem dX12_layBrings_2 : decode cX12_layBrings 2 = .ok (.iload_n 2, 1) := by decide +kernel
theorem dX12_layBrings_3 : decode cX12_layBrings 3 = .ok (.bipush 96, 2) := by decide +kernel
theorem dX12_layBrings_5 : decode cX12_layBrings 5 = .ok (.if_icmp .ge 16, 3) := by decide +kernel
theorem dX12_layBrings_8 : decode cX12_layBrings 8 = .ok (.aload_n 0, 1) := by decide +kernel
theorem dX12_layBrings_9 : decode cX12_layBrings 9 = .ok (.getfield 62, 3) := by decide +kernel
theorem dX12_layBrings_12 : decode cX12_layBrings 12 = .ok (.iload_n 2, 1) := by decide +kernel
theorem dX12_layBrings_13 : decode cX12_layBrings 13 = .ok (.iconst 0, 1) := by decide +kernel
theorem dX12_layBrings_14 : decode cX12_layBrings 14 = .ok (.iastore, 1) := by decide +kernel
theorem dX12_layBrings_15 : decode cX12_layBrings 15 = .ok (.iinc 2 1, 3) := by decide +kernel
theorem dX12_layBrings_18 : decode cX12_layBrings 18 = .ok (.goto (-16), 3) := by decide +kernel
theorem dX12_layBrings_21 : decode cX12_layBrings 21 = .ok (.iconst 0, 1) := by decide +kernel
theorem dX12_layBrings_22 : decode cX12_layBrings 22 = .ok (.istore_n 2, 1) := by decide +kernel
theorem dX12_layBrings_23 : decode cX12_layBrings 23 = .ok (.iload_n 2, 1) := by decide +kernel
theorem dX12_layBrings_24 : decode cX12_layBrings 24 = .ok (.aload_n 0, 1) := by decide +kernel
theorem dX12_layBrings_25 : decode cX12_layBrings 25 = .ok (.getfield 306, 3) := by decide +kernel
theorem dX12_layBrings_28 : decode cX12_layBrings 28 = .ok (.if_icmp .ge 101, 3) := by decide +kernel
theorem dX12_layBrings_31 : decode cX12_layBrings 31 = .ok (.aload_n 1, 1) := by decide +kernel
theorem dX12_layBrings_32 : decode cX12_layBrings 32 = .ok (.aload_n 0, 1) := by decide +kernel
theorem dX12_layBrings_33 : decode cX12_layBrings 33 = .ok (.iload_n 2, 1) := by decide +kernel
theorem dX12_layBrings_34 : decode cX12_layBrings 34 = .ok (.invokevirtual 366, 3) := by decide +kernel
theorem dX12_layBrings_37 : decode cX12_layBrings 37 = .ok (.iaload, 1) := by decide +kernel
theorem dX12_layBrings_38 : decode cX12_layBrings 38 = .ok (.istore_n 3, 1) := by decide +kernel
theorem dX12_layBrings_39 : decode cX12_layBrings 39 = .ok (.aload_n 0, 1) := by decide +kernel
theorem dX12_layBrings_40 : decode cX12_layBrings 40 = .ok (.iload_n 2, 1) := by decide +kernel
theorem dX12_layBrings_41 : decode cX12_layBrings 41 = .ok (.invokevirtual 369, 3) := by decide +kernel
theorem dX12_layBrings_44 : decode cX12_layBrings 44 = .ok (.istore 4, 2) := by decide +kernel
theorem dX12_layBrings_46 : decode cX12_layBrings 46 = .ok (.aload_n 0, 1) := by decide +kernel
theorem dX12_layBrings_47 : decode cX12_layBrings 47 = .ok (.iload_n 2, 1) := by decide +kernel
theorem dX12_layBrings_48 : decode cX12_layBrings 48 = .ok (.iconst 0, 1) := by decide +kernel
theorem dX12_layBrings_49 : decode cX12_layBrings 49 = .ok (.invokevirtual 343, 3) := by decide +kernel
theorem dX12_layBrings_52 : decode cX12_layBrings 52 = .ok (.aload_n 0, 1) := by decide +kernel
theorem dX12_layBrings_53 : decode cX12_layBrings 53 = .ok (.iload_n 2, 1) := by decide +kernel
theorem dX12_layBrings_54 : decode cX12_layBrings 54 = .ok (.invokevirtual 356, 3) := by decide +kernel
theorem dX12_layBrings_57 : decode cX12_layBrings 57 = .ok (.imul, 1) := by decide +kernel
theorem dX12_layBrings_58 : decode cX12_layBrings 58 = .ok (.istore 5, 2) := by decide +kernel
theorem dX12_layBrings_60 : decode cX12_layBrings 60 = .ok (.iload_n 3, 1) := by decide +kernel
theorem dX12_layBrings_61 : decode cX12_layBrings 61 = .ok (.ifCond .ne 7, 3) := by decide +kernel
theorem dX12_layBrings_64 : decode cX12_layBrings 64 = .ok (.iconst 0, 1) := by decide +kernel
theorem dX12_layBrings_65 : decode cX12_layBrings 65 = .ok (.goto 7, 3) := by decide +kernel
theorem dX12_layBrings_68 : decode cX12_layBrings 68 = .ok (.aload_n 0, 1) := by decide +kernel
theorem dX12_layBrings_69 : decode cX12_layBrings 69 = .ok (.getfield 312, 3) := by decide +kernel
theorem dX12_layBrings_72 : decode cX12_layBrings 72 = .ok (.istore 6, 2) := by decide +kernel
theorem dX12_layBrings_74 : decode cX12_layBrings 74 = .ok (.aload_n 0, 1) := by decide +kernel
theorem dX12_layBrings_75 : decode cX12_layBrings 75 = .ok (.getfield 62, 3) := by decide +kernel
theorem dX12_layBrings_78 : decode cX12_layBrings 78 = .ok (.bipush 6, 2) := by decide +kernel
theorem dX12_layBrings_80 : decode cX12_layBrings 80 = .ok (.iconst 4, 1) := by decide +kernel
theorem dX12_layBrings_81 : decode cX12_layBrings 81 = .ok (.iload 4, 2) := by decide +kernel
theorem dX12_layBrings_83 : decode cX12_layBrings 83 = .ok (.imul, 1) := by decide +kernel
theorem dX12_layBrings_84 : decode cX12_layBrings 84 = .ok (.iload_n 3, 1) := by decide +kernel
theorem dX12_layBrings_85 : decode cX12_layBrings 85 = .ok (.iadd, 1) := by decide +kernel
theorem dX12_layBrings_86 : decode cX12_layBrings 86 = .ok (.imul, 1) := by decide +kernel
theorem dX12_layBrings_87 : decode cX12_layBrings 87 = .ok (.iload_n 2, 1) := by decide +kernel
theorem dX12_layBrings_88 : decode cX12_layBrings 88 = .ok (.iadd, 1) := by decide +kernel
theorem dX12_layBrings_89 : decode cX12_layBrings 89 = .ok (.dup2, 1) := by decide +kernel
theorem dX12_layBrings_90 : decode cX12_layBrings 90 = .ok (.iaload, 1) := by decide +kernel
theorem dX12_layBrings_91 : decode cX12_layBrings 91 = .ok (.iload 5, 2) := by decide +kernel
theorem dX12_layBrings_93 : decode cX12_layBrings 93 = .ok (.bipush 100, 2) := by decide +kernel
theorem dX12_layBrings_95 : decode cX12_layBrings 95 = .ok (.iload 6, 2) := by decide +kernel
theorem dX12_layBrings_97 : decode cX12_layBrings 97 = .ok (.isub, 1) := by decide +kernel
theorem dX12_layBrings_98 : decode cX12_layBrings 98 = .ok (.imul, 1) := by decide +kernel
theorem dX12_layBrings_99 : decode cX12_layBrings 99 = .ok (.iadd, 1) := by decide +kernel
theorem dX12_layBrings_100 : decode cX12_layBrings 100 = .ok (.iastore, 1) := by decide +kernel
theorem dX12_layBrings_101 : decode cX12_layBrings 101 = .ok (.aload_n 0, 1) := by decide +kernel
theorem dX12_layBrings_102 : decode cX12_layBrings 102 = .ok (.getfield 62, 3) := by decide +kernel
theorem dX12_layBrings_105 : decode cX12_layBrings 105 = .ok (.bipush 6, 2) := by decide +kernel
theorem dX12_layBrings_107 : decode cX12_layBrings 107 = .ok (.iconst 4, 1) := by decide +kernel
theorem dX12_layBrings_108 : decode cX12_layBrings 108 = .ok (.iload 4, 2) := by decide +kernel
theorem dX12_layBrings_110 : decode cX12_layBrings 110 = .ok (.imul, 1) := by decide +kernel
theorem dX12_layBrings_111 : decode cX12_layBrings 111 = .ok (.imul, 1) := by decide +kernel
theorem dX12_layBrings_112 : decode cX12_layBrings 112 = .ok (.iload_n 2, 1) := by decide +kernel
theorem dX12_layBrings_113 : decode cX12_layBrings 113 = .ok (.iadd, 1) := by decide +kernel
theorem dX12_layBrings_114 : decode cX12_layBrings 114 = .ok (.dup2, 1) := by decide +kernel
theorem dX12_layBrings_115 : decode cX12_layBrings 115 = .ok (.iaload, 1) := by decide +kernel
theorem dX12_layBrings_116 : decode cX12_layBrings 116 = .ok (.iload 5, 2) := by decide +kernel
theorem dX12_layBrings_118 : decode cX12_layBrings 118 = .ok (.iload 6, 2) := by decide +kernel
theorem dX12_layBrings_120 : decode cX12_layBrings 120 = .ok (.imul, 1) := by decide +kernel
theorem dX12_layBrings_121 : decode cX12_layBrings 121 = .ok (.iadd, 1) := by decide +kernel
theorem dX12_layBrings_122 : decode cX12_layBrings 122 = .ok (.iastore, 1) := by decide +kernel
theorem dX12_layBrings_123 : decode cX12_layBrings 123 = .ok (.iinc 2 1, 3) := by decide +kernel
theorem dX12_layBrings_126 : decode cX12_layBrings 126 = .ok (.goto (-103), 3) := by decide +kernel
theorem dX12_layBrings_129 : decode cX12_layBrings 129 = .ok (.return_, 1) := by decide +kernel
theorem dX12_layAnswers_0 : decode cX12_layAnswers 0 = .ok (.iconst 0, 1) := by decide +kernel
theorem dX12_layAnswers_1 : decode cX12_layAnswers 1 = .ok (.istore_n 1, 1) := by decide +kernel
theorem dX12_layAnswers_2 : decode cX12_layAnswers 2 = .ok (.iload_n 1, 1) := by decide +kernel
theorem dX12_layAnswers_3 : decode cX12_layAnswers 3 = .ok (.bipush 16, 2) := by decide +kernel
theorem dX12_layAnswers_5 : decode cX12_layAnswers 5 = .ok (.if_icmp .ge 78, 3) := by decide +kernel
theorem dX12_layAnswers_8 : decode cX12_layAnswers 8 = .ok (.aload_n 0, 1) := by decide +kernel
theorem dX12_layAnswers_9 : decode cX12_layAnswers 9 = .ok (.getfield 65, 3) := by decide +kernel
theorem dX12_layAnswers_12 : decode cX12_layAnswers 12 = .ok (.iload_n 1, 1) := by decide +kernel
theorem dX12_layAnswers_13 : decode cX12_layAnswers 13 = .ok (.iconst 0, 1) := by decide +kernel
theorem dX12_layAnswers_14 : decode cX12_layAnswers 14 = .ok (.iastore, 1) := by decide +kernel
theorem dX12_layAnswers_15 : decode cX12_layAnswers 15 = .ok (.iconst 1, 1) := by decide +kernel
theorem dX12_layAnswers_16 : decode cX12_layAnswers 16 = .ok (.istore_n 2, 1) := by decide +kernel
theorem dX12_layAnswers_17 : decode cX12_layAnswers 17 = .ok (.iload_n 2, 1) := by decide +kernel
theorem dX12_layAnswers_18 : decode cX12_layAnswers 18 = .ok (.aload_n 0, 1) := by decide +kernel
theorem dX12_layAnswers_19 : decode cX12_layAnswers 19 = .ok (.getfield 306, 3) := by decide +kernel
theorem dX12_layAnswers_22 : decode cX12_layAnswers 22 = .ok (.if_icmp .ge 55, 3) := by decide +kernel
theorem dX12_layAnswers_25 : decode cX12_layAnswers 25 = .ok (.aload_n 0, 1) := by decide +kernel
theorem dX12_layAnswers_26 : decode cX12_layAnswers 26 = .ok (.getfield 65, 3) := by decide +kernel
theorem dX12_layAnswers_29 : decode cX12_layAnswers 29 = .ok (.iload_n 1, 1) := by decide +kernel
theorem dX12_layAnswers_30 : decode cX12_layAnswers 30 = .ok (.aload_n 0, 1) := by decide +kernel
theorem dX12_layAnswers_31 : decode cX12_layAnswers 31 = .ok (.getfield 62, 3) := by decide +kernel
theorem dX12_layAnswers_34 : decode cX12_layAnswers 34 = .ok (.bipush 6, 2) := by decide +kernel
theorem dX12_layAnswers_36 : decode cX12_layAnswers 36 = .ok (.iload_n 1, 1) := by decide +kernel
theorem dX12_layAnswers_37 : decode cX12_layAnswers 37 = .ok (.imul, 1) := by decide +kernel
theorem dX12_layAnswers_38 : decode cX12_layAnswers 38 = .ok (.iload_n 2, 1) := by decide +kernel
theorem dX12_layAnswers_39 : decode cX12_layAnswers 39 = .ok (.iadd, 1) := by decide +kernel
theorem dX12_layAnswers_40 : decode cX12_layAnswers 40 = .ok (.iaload, 1) := by decide +kernel
theorem dX12_layAnswers_41 : decode cX12_layAnswers 41 = .ok (.aload_n 0, 1) := by decide +kernel
theorem dX12_layAnswers_42 : decode cX12_layAnswers 42 = .ok (.getfield 62, 3) := by decide +kernel
theorem dX12_layAnswers_45 : decode cX12_layAnswers 45 = .ok (.bipush 6, 2) := by decide +kernel
theorem dX12_layAnswers_47 : decode cX12_layAnswers 47 = .ok (.iload_n 1, 1) := by decide +kernel
theorem dX12_layAnswers_48 : decode cX12_layAnswers 48 = .ok (.imul, 1) := by decide +kernel
theorem dX12_layAnswers_49 : decode cX12_layAnswers 49 = .ok (.aload_n 0, 1) := by decide +kernel
theorem dX12_layAnswers_50 : decode cX12_layAnswers 50 = .ok (.getfield 65, 3) := by decide +kernel
theorem dX12_layAnswers_53 : decode cX12_layAnswers 53 = .ok (.iload_n 1, 1) := by decide +kernel
theorem dX12_layAnswers_54 : decode cX12_layAnswers 54 = .ok (.iaload, 1) := by decide +kernel
theorem dX12_layAnswers_55 : decode cX12_layAnswers 55 = .ok (.iadd, 1) := by decide +kernel
theorem dX12_layAnswers_56 : decode cX12_layAnswers 56 = .ok (.iaload, 1) := by decide +kernel
theorem dX12_layAnswers_57 : decode cX12_layAnswers 57 = .ok (.if_icmp .le 7, 3) := by decide +kernel
theorem dX12_layAnswers_60 : decode cX12_layAnswers 60 = .ok (.iload_n 2, 1) := by decide +kernel
theorem dX12_layAnswers_61 : decode cX12_layAnswers 61 = .ok (.goto 9, 3) := by decide +kernel
theorem dX12_layAnswers_64 : decode cX12_layAnswers 64 = .ok (.aload_n 0, 1) := by decide +kernel
theorem dX12_layAnswers_65 : decode cX12_layAnswers 65 = .ok (.getfield 65, 3) := by decide +kernel
theorem dX12_layAnswers_68 : decode cX12_layAnswers 68 = .ok (.iload_n 1, 1) := by decide +kernel
theorem dX12_layAnswers_69 : decode cX12_layAnswers 69 = .ok (.iaload, 1) := by decide +kernel
theorem dX12_layAnswers_70 : decode cX12_layAnswers 70 = .ok (.iastore, 1) := by decide +kernel
theorem dX12_layAnswers_71 : decode cX12_layAnswers 71 = .ok (.iinc 2 1, 3) := by decide +kernel
theorem dX12_layAnswers_74 : decode cX12_layAnswers 74 = .ok (.goto (-57), 3) := by decide +kernel
theorem dX12_layAnswers_77 : decode cX12_layAnswers 77 = .ok (.iinc 1 1, 3) := by decide +kernel
theorem dX12_layAnswers_80 : decode cX12_layAnswers 80 = .ok (.goto (-78), 3) := by decide +kernel
theorem dX12_layAnswers_83 : decode cX12_layAnswers 83 = .ok (.return_, 1) := by decide +kernel
theorem dX12_sumBy_0 : decode cX12_sumBy 0 = .ok (.iconst 0, 1) := by decide +kernel
theorem dX12_sumBy_1 : decode cX12_sumBy 1 = .ok (.istore_n 2, 1) := by decide +kernel
theorem dX12_sumBy_2 : decode cX12_sumBy 2 = .ok (.iconst 0, 1) := by decide +kernel
theorem dX12_sumBy_3 : decode cX12_sumBy 3 = .ok (.istore_n 3, 1) := by decide +kernel
theorem dX12_sumBy_4 : decode cX12_sumBy 4 = .ok (.iload_n 3, 1) := by decide +kernel
theorem dX12_sumBy_5 : decode cX12_sumBy 5 = .ok (.bipush 16, 2) := by decide +kernel
theorem dX12_sumBy_7 : decode cX12_sumBy 7 = .ok (.if_icmp .ge 25, 3) := by decide +kernel
theorem dX12_sumBy_10 : decode cX12_sumBy 10 = .ok (.iload_n 2, 1) := by decide +kernel
theorem dX12_sumBy_11 : decode cX12_sumBy 11 = .ok (.aload_n 0, 1) := by decide +kernel
theorem dX12_sumBy_12 : decode cX12_sumBy 12 = .ok (.getfield 62, 3) := by decide +kernel
theorem dX12_sumBy_15 : decode cX12_sumBy 15 = .ok (.bipush 6, 2) := by decide +kernel
theorem dX12_sumBy_17 : decode cX12_sumBy 17 = .ok (.iload_n 3, 1) := by decide +kernel
theorem dX12_sumBy_18 : decode cX12_sumBy 18 = .ok (.imul, 1) := by decide +kernel
theorem dX12_sumBy_19 : decode cX12_sumBy 19 = .ok (.aload_n 1, 1) := by decide +kernel
theorem dX12_sumBy_20 : decode cX12_sumBy 20 = .ok (.iload_n 3, 1) := by decide +kernel
theorem dX12_sumBy_21 : decode cX12_sumBy 21 = .ok (.iaload, 1) := by decide +kernel
theorem dX12_sumBy_22 : decode cX12_sumBy 22 = .ok (.iadd, 1) := by decide +kernel
theorem dX12_sumBy_23 : decode cX12_sumBy 23 = .ok (.iaload, 1) := by decide +kernel
theorem dX12_sumBy_24 : decode cX12_sumBy 24 = .ok (.iadd, 1) := by decide +kernel
theorem dX12_sumBy_25 : decode cX12_sumBy 25 = .ok (.istore_n 2, 1) := by decide +kernel
theorem dX12_sumBy_26 : decode cX12_sumBy 26 = .ok (.iinc 3 1, 3) := by decide +kernel
theorem dX12_sumBy_29 : decode cX12_sumBy 29 = .ok (.goto (-25), 3) := by decide +kernel
theorem dX12_sumBy_32 : decode cX12_sumBy 32 = .ok (.iload_n 2, 1) := by decide +kernel
theorem dX12_sumBy_33 : decode cX12_sumBy 33 = .ok (.ireturn, 1) := by decide +kernel
theorem dX12_below_0 : decode cX12_below 0 = .ok (.iconst 0, 1) := by decide +kernel
theorem dX12_below_1 : decode cX12_below 1 = .ok (.istore_n 1, 1) := by decide +kernel
theorem dX12_below_2 : decode cX12_below 2 = .ok (.iconst 0, 1) := by decide +kernel
theorem dX12_below_3 : decode cX12_below 3 = .ok (.istore_n 2, 1) := by decide +kernel
theorem dX12_below_4 : decode cX12_below 4 = .ok (.iload_n 2, 1) := by decide +kernel
theorem dX12_below_5 : decode cX12_below 5 = .ok (.aload_n 0, 1) := by decide +kernel
theorem dX12_below_6 : decode cX12_below 6 = .ok (.getfield 306, 3) := by decide +kernel
theorem dX12_below_9 : decode cX12_below 9 = .ok (.if_icmp .ge 18, 3) := by decide +kernel
theorem dX12_below_12 : decode cX12_below 12 = .ok (.iload_n 1, 1) := by decide +kernel
theorem dX12_below_13 : decode cX12_below 13 = .ok (.aload_n 0, 1) := by decide +kernel
theorem dX12_below_14 : decode cX12_below 14 = .ok (.iload_n 2, 1) := by decide +kernel
theorem dX12_below_15 : decode cX12_below 15 = .ok (.iconst 0, 1) := by decide +kernel
theorem dX12_below_16 : decode cX12_below 16 = .ok (.invokevirtual 343, 3) := by decide +kernel
theorem dX12_below_19 : decode cX12_below 19 = .ok (.iadd, 1) := by decide +kernel
theorem dX12_below_20 : decode cX12_below 20 = .ok (.istore_n 1, 1) := by decide +kernel
theorem dX12_below_21 : decode cX12_below 21 = .ok (.iinc 2 1, 3) := by decide +kernel
theorem dX12_below_24 : decode cX12_below 24 = .ok (.goto (-20), 3) := by decide +kernel
theorem dX12_below_27 : decode cX12_below 27 = .ok (.bipush 100, 2) := by decide +kernel
theorem dX12_below_29 : decode cX12_below 29 = .ok (.iload_n 1, 1) := by decide +kernel
theorem dX12_below_30 : decode cX12_below 30 = .ok (.imul, 1) := by decide +kernel
theorem dX12_below_31 : decode cX12_below 31 = .ok (.ireturn, 1) := by decide +kernel
theorem dX12_divisor_0 : decode cX12_divisor 0 = .ok (.iload_n 1, 1) := by decide +kernel
theorem dX12_divisor_1 : decode cX12_divisor 1 = .ok (.ifCond .ne 7, 3) := by decide +kernel
theorem dX12_divisor_4 : decode cX12_divisor 4 = .ok (.iload_n 0, 1) := by decide +kernel
theorem dX12_divisor_5 : decode cX12_divisor 5 = .ok (.goto 10, 3) := by decide +kernel
theorem dX12_divisor_8 : decode cX12_divisor 8 = .ok (.iload_n 1, 1) := by decide +kernel
theorem dX12_divisor_9 : decode cX12_divisor 9 = .ok (.iload_n 0, 1) := by decide +kernel
theorem dX12_divisor_10 : decode cX12_divisor 10 = .ok (.iload_n 1, 1) := by decide +kernel
theorem dX12_divisor_11 : decode cX12_divisor 11 = .ok (.irem, 1) := by decide +kernel
theorem dX12_divisor_12 : decode cX12_divisor 12 = .ok (.invokestatic 372, 3) := by decide +kernel
theorem dX12_divisor_15 : decode cX12_divisor 15 = .ok (.ireturn, 1) := by decide +kernel
theorem dX12_plain_0 : decode cX12_plain 0 = .ok (.aload_n 0, 1) := by decide +kernel
theorem dX12_plain_1 : decode cX12_plain 1 = .ok (.invokevirtual 375, 3) := by decide +kernel
theorem dX12_plain_4 : decode cX12_plain 4 = .ok (.iload_n 1, 1) := by decide +kernel
theorem dX12_plain_5 : decode cX12_plain 5 = .ok (.invokestatic 372, 3) := by decide +kernel
theorem dX12_plain_8 : decode cX12_plain 8 = .ok (.istore_n 3, 1) := by decide +kernel
theorem dX12_plain_9 : decode cX12_plain 9 = .ok (.iload_n 2, 1) := by decide +kernel
theorem dX12_plain_10 : decode cX12_plain 10 = .ok (.ifCond .ne 9, 3) := by decide +kernel
theorem dX12_plain_13 : decode cX12_plain 13 = .ok (.iload_n 1, 1) := by decide +kernel
theorem dX12_plain_14 : decode cX12_plain 14 = .ok (.iload_n 3, 1) := by decide +kernel
theorem dX12_plain_15 : decode cX12_plain 15 = .ok (.idiv, 1) := by decide +kernel
theorem dX12_plain_16 : decode cX12_plain 16 = .ok (.goto 9, 3) := by decide +kernel
theorem dX12_plain_19 : decode cX12_plain 19 = .ok (.aload_n 0, 1) := by decide +kernel
theorem dX12_plain_20 : decode cX12_plain 20 = .ok (.invokevirtual 375, 3) := by decide +kernel
theorem dX12_plain_23 : decode cX12_plain 23 = .ok (.iload_n 3, 1) := by decide +kernel
theorem dX12_plain_24 : decode cX12_plain 24 = .ok (.idiv, 1) := by decide +kernel
theorem dX12_plain_25 : decode cX12_plain 25 = .ok (.ireturn, 1) := by decide +kernel
theorem dX12_mean_0 : decode cX12_mean 0 = .ok (.aload_n 0, 1) := by decide +kernel
theorem dX12_mean_1 : decode cX12_mean 1 = .ok (.getfield 306, 3) := by decide +kernel
theorem dX12_mean_4 : decode cX12_mean 4 = .ok (.ifCond .eq 12, 3) := by decide +kernel
theorem dX12_mean_7 : decode cX12_mean 7 = .ok (.iload_n 1, 1) := by decide +kernel
theorem dX12_mean_8 : decode cX12_mean 8 = .ok (.iconst 0, 1) := by decide +kernel
theorem dX12_mean_9 : decode cX12_mean 9 = .ok (.iconst 1, 1) := by decide +kernel
theorem dX12_mean_10 : decode cX12_mean 10 = .ok (.invokestatic 269, 3) := by decide +kernel
theorem dX12_mean_13 : decode cX12_mean 13 = .ok (.ifCond .ne 5, 3) := by decide +kernel
theorem dX12_mean_16 : decode cX12_mean 16 = .ok (.iconst (-1), 1) := by decide +kernel
theorem dX12_mean_17 : decode cX12_mean 17 = .ok (.ireturn, 1) := by decide +kernel
theorem dX12_mean_18 : decode cX12_mean 18 = .ok (.aload_n 0, 1) := by decide +kernel
theorem dX12_mean_19 : decode cX12_mean 19 = .ok (.aload_n 0, 1) := by decide +kernel
theorem dX12_mean_20 : decode cX12_mean 20 = .ok (.getfield 49, 3) := by decide +kernel
theorem dX12_mean_23 : decode cX12_mean 23 = .ok (.invokevirtual 378, 3) := by decide +kernel
theorem dX12_mean_26 : decode cX12_mean 26 = .ok (.aload_n 0, 1) := by decide +kernel
theorem dX12_mean_27 : decode cX12_mean 27 = .ok (.aload_n 0, 1) := by decide +kernel
theorem dX12_mean_28 : decode cX12_mean 28 = .ok (.aload_n 0, 1) := by decide +kernel
theorem dX12_mean_29 : decode cX12_mean 29 = .ok (.getfield 52, 3) := by decide +kernel
theorem dX12_mean_32 : decode cX12_mean 32 = .ok (.invokevirtual 382, 3) := by decide +kernel
theorem dX12_mean_35 : decode cX12_mean 35 = .ok (.iload_n 1, 1) := by decide +kernel
theorem dX12_mean_36 : decode cX12_mean 36 = .ok (.invokevirtual 386, 3) := by decide +kernel
theorem dX12_mean_39 : decode cX12_mean 39 = .ok (.ireturn, 1) := by decide +kernel
theorem dX12_answer_0 : decode cX12_answer 0 = .ok (.aload_n 0, 1) := by decide +kernel
theorem dX12_answer_1 : decode cX12_answer 1 = .ok (.getfield 306, 3) := by decide +kernel
theorem dX12_answer_4 : decode cX12_answer 4 = .ok (.ifCond .ne 5, 3) := by decide +kernel
theorem dX12_answer_7 : decode cX12_answer 7 = .ok (.iconst 0, 1) := by decide +kernel
theorem dX12_answer_8 : decode cX12_answer 8 = .ok (.ireturn, 1) := by decide +kernel
theorem dX12_answer_9 : decode cX12_answer 9 = .ok (.aload_n 0, 1) := by decide +kernel
theorem dX12_answer_10 : decode cX12_answer 10 = .ok (.aload_n 0, 1) := by decide +kernel
theorem dX12_answer_11 : decode cX12_answer 11 = .ok (.getfield 49, 3) := by decide +kernel
theorem dX12_answer_14 : decode cX12_answer 14 = .ok (.invokevirtual 378, 3) := by decide +kernel
theorem dX12_answer_17 : decode cX12_answer 17 = .ok (.aload_n 0, 1) := by decide +kernel
theorem dX12_answer_18 : decode cX12_answer 18 = .ok (.invokevirtual 389, 3) := by decide +kernel
theorem dX12_answer_21 : decode cX12_answer 21 = .ok (.iconst 0, 1) := by decide +kernel
theorem dX12_answer_22 : decode cX12_answer 22 = .ok (.istore_n 1, 1) := by decide +kernel
theorem dX12_answer_23 : decode cX12_answer 23 = .ok (.iload_n 1, 1) := by decide +kernel
theorem dX12_answer_24 : decode cX12_answer 24 = .ok (.bipush 16, 2) := by decide +kernel
theorem dX12_answer_26 : decode cX12_answer 26 = .ok (.if_icmp .ge 21, 3) := by decide +kernel
theorem dX12_answer_29 : decode cX12_answer 29 = .ok (.aload_n 0, 1) := by decide +kernel
theorem dX12_answer_30 : decode cX12_answer 30 = .ok (.getfield 52, 3) := by decide +kernel
theorem dX12_answer_33 : decode cX12_answer 33 = .ok (.iload_n 1, 1) := by decide +kernel
theorem dX12_answer_34 : decode cX12_answer 34 = .ok (.aload_n 0, 1) := by decide +kernel
theorem dX12_answer_35 : decode cX12_answer 35 = .ok (.getfield 65, 3) := by decide +kernel
theorem dX12_answer_38 : decode cX12_answer 38 = .ok (.iload_n 1, 1) := by decide +kernel
theorem dX12_answer_39 : decode cX12_answer 39 = .ok (.iaload, 1) := by decide +kernel
theorem dX12_answer_40 : decode cX12_answer 40 = .ok (.iastore, 1) := by decide +kernel
theorem dX12_answer_41 : decode cX12_answer 41 = .ok (.iinc 1 1, 3) := by decide +kernel
theorem dX12_answer_44 : decode cX12_answer 44 = .ok (.goto (-21), 3) := by decide +kernel
theorem dX12_answer_47 : decode cX12_answer 47 = .ok (.iconst 1, 1) := by decide +kernel
theorem dX12_answer_48 : decode cX12_answer 48 = .ok (.ireturn, 1) := by decide +kernel
theorem dX12_answerTo_0 : decode cX12_answerTo 0 = .ok (.aload_n 0, 1) := by decide +kernel
theorem dX12_answerTo_1 : decode cX12_answerTo 1 = .ok (.iload_n 1, 1) := by decide +kernel
theorem dX12_answerTo_2 : decode cX12_answerTo 2 = .ok (.iload_n 2, 1) := by decide +kernel
theorem dX12_answerTo_3 : decode cX12_answerTo 3 = .ok (.invokevirtual 363, 3) := by decide +kernel
theorem dX12_answerTo_6 : decode cX12_answerTo 6 = .ok (.ifCond .ne 5, 3) := by decide +kernel
theorem dX12_answerTo_9 : decode cX12_answerTo 9 = .ok (.iconst (-1), 1) := by decide +kernel
theorem dX12_answerTo_10 : decode cX12_answerTo 10 = .ok (.ireturn, 1) := by decide +kernel
theorem dX12_answerTo_11 : decode cX12_answerTo 11 = .ok (.aload_n 0, 1) := by decide +kernel
theorem dX12_answerTo_12 : decode cX12_answerTo 12 = .ok (.aload_n 0, 1) := by decide +kernel
theorem dX12_answerTo_13 : decode cX12_answerTo 13 = .ok (.getfield 49, 3) := by decide +kernel
theorem dX12_answerTo_16 : decode cX12_answerTo 16 = .ok (.invokevirtual 378, 3) := by decide +kernel
theorem dX12_answerTo_19 : decode cX12_answerTo 19 = .ok (.aload_n 0, 1) := by decide +kernel
theorem dX12_answerTo_20 : decode cX12_answerTo 20 = .ok (.invokevirtual 389, 3) := by decide +kernel
theorem dX12_answerTo_23 : decode cX12_answerTo 23 = .ok (.aload_n 0, 1) := by decide +kernel
theorem dX12_answerTo_24 : decode cX12_answerTo 24 = .ok (.getfield 65, 3) := by decide +kernel
theorem dX12_answerTo_27 : decode cX12_answerTo 27 = .ok (.iconst 4, 1) := by decide +kernel
theorem dX12_answerTo_28 : decode cX12_answerTo 28 = .ok (.iload_n 1, 1) := by decide +kernel
theorem dX12_answerTo_29 : decode cX12_answerTo 29 = .ok (.imul, 1) := by decide +kernel
theorem dX12_answerTo_30 : decode cX12_answerTo 30 = .ok (.iload_n 2, 1) := by decide +kernel
theorem dX12_answerTo_31 : decode cX12_answerTo 31 = .ok (.iadd, 1) := by decide +kernel
theorem dX12_answerTo_32 : decode cX12_answerTo 32 = .ok (.iaload, 1) := by decide +kernel
theorem dX12_answerTo_33 : decode cX12_answerTo 33 = .ok (.ireturn, 1) := by decide +kernel
theorem dX12_answeredBy_0 : decode cX12_answeredBy 0 = .ok (.aload_n 0, 1) := by decide +kernel
theorem dX12_answeredBy_1 : decode cX12_answeredBy 1 = .ok (.aload_n 1, 1) := by decide +kernel
theorem dX12_answeredBy_2 : decode cX12_answeredBy 2 = .ok (.invokevirtual 378, 3) := by decide +kernel
theorem dX12_answeredBy_5 : decode cX12_answeredBy 5 = .ok (.aload_n 0, 1) := by decide +kernel
theorem dX12_answeredBy_6 : decode cX12_answeredBy 6 = .ok (.invokevirtual 389, 3) := by decide +kernel
theorem dX12_answeredBy_9 : decode cX12_answeredBy 9 = .ok (.aload_n 0, 1) := by decide +kernel
theorem dX12_answeredBy_10 : decode cX12_answeredBy 10 = .ok (.aload_n 0, 1) := by decide +kernel
theorem dX12_answeredBy_11 : decode cX12_answeredBy 11 = .ok (.getfield 65, 3) := by decide +kernel
theorem dX12_answeredBy_14 : decode cX12_answeredBy 14 = .ok (.invokevirtual 382, 3) := by decide +kernel
theorem dX12_answeredBy_17 : decode cX12_answeredBy 17 = .ok (.ireturn, 1) := by decide +kernel
theorem dX12_nth_0 : decode cX12_nth 0 = .ok (.iload_n 1, 1) := by decide +kernel
theorem dX12_nth_1 : decode cX12_nth 1 = .ok (.istore 4, 2) := by decide +kernel
theorem dX12_nth_3 : decode cX12_nth 3 = .ok (.iconst 3, 1) := by decide +kernel
theorem dX12_nth_4 : decode cX12_nth 4 = .ok (.istore 5, 2) := by decide +kernel
theorem dX12_nth_6 : decode cX12_nth 6 = .ok (.iload 5, 2) := by decide +kernel
theorem dX12_nth_8 : decode cX12_nth 8 = .ok (.ifCond .lt 23, 3) := by decide +kernel
theorem dX12_nth_11 : decode cX12_nth 11 = .ok (.aload_n 3, 1) := by decide +kernel
theorem dX12_nth_12 : decode cX12_nth 12 = .ok (.iload 5, 2) := by decide +kernel
theorem dX12_nth_14 : decode cX12_nth 14 = .ok (.iload 4, 2) := by decide +kernel
theorem dX12_nth_16 : decode cX12_nth 16 = .ok (.iload_n 2, 1) := by decide +kernel
theorem dX12_nth_17 : decode cX12_nth 17 = .ok (.irem, 1) := by decide +kernel
theorem dX12_nth_18 : decode cX12_nth 18 = .ok (.iastore, 1) := by decide +kernel
theorem dX12_nth_19 : decode cX12_nth 19 = .ok (.iload 4, 2) := by decide +kernel
theorem dX12_nth_21 : decode cX12_nth 21 = .ok (.iload_n 2, 1) := by decide +kernel
theorem dX12_nth_22 : decode cX12_nth 22 = .ok (.idiv, 1) := by decide +kernel
theorem dX12_nth_23 : decode cX12_nth 23 = .ok (.istore 4, 2) := by decide +kernel
theorem dX12_nth_25 : decode cX12_nth 25 = .ok (.iinc 5 (-1), 3) := by decide +kernel
theorem dX12_nth_28 : decode cX12_nth 28 = .ok (.goto (-22), 3) := by decide +kernel
theorem dX12_nth_31 : decode cX12_nth 31 = .ok (.return_, 1) := by decide +kernel
theorem dX12_layTongue_0 : decode cX12_layTongue 0 = .ok (.aload_n 0, 1) := by decide +kernel
theorem dX12_layTongue_1 : decode cX12_layTongue 1 = .ok (.iconst (-1), 1) := by decide +kernel
theorem dX12_layTongue_2 : decode cX12_layTongue 2 = .ok (.putfield 392, 3) := by decide +kernel
theorem dX12_layTongue_5 : decode cX12_layTongue 5 = .ok (.iconst 0, 1) := by decide +kernel
theorem dX12_layTongue_6 : decode cX12_layTongue 6 = .ok (.istore_n 2, 1) := by decide +kernel
theorem dX12_layTongue_7 : decode cX12_layTongue 7 = .ok (.iload_n 2, 1) := by decide +kernel
theorem dX12_layTongue_8 : decode cX12_layTongue 8 = .ok (.iload_n 1, 1) := by decide +kernel
theorem dX12_layTongue_9 : decode cX12_layTongue 9 = .ok (.iload_n 1, 1) := by decide +kernel
theorem dX12_layTongue_10 : decode cX12_layTongue 10 = .ok (.imul, 1) := by decide +kernel
theorem dX12_layTongue_11 : decode cX12_layTongue 11 = .ok (.iload_n 1, 1) := by decide +kernel
theorem dX12_layTongue_12 : decode cX12_layTongue 12 = .ok (.imul, 1) := by decide +kernel
theorem dX12_layTongue_13 : decode cX12_layTongue 13 = .ok (.iload_n 1, 1) := by decide +kernel
theorem dX12_layTongue_14 : decode cX12_layTongue 14 = .ok (.imul, 1) := by decide +kernel
theorem dX12_layTongue_15 : decode cX12_layTongue 15 = .ok (.if_icmp .ge 52, 3) := by decide +kernel
theorem dX12_layTongue_18 : decode cX12_layTongue 18 = .ok (.aload_n 0, 1) := by decide +kernel
theorem dX12_layTongue_19 : decode cX12_layTongue 19 = .ok (.iload_n 2, 1) := by decide +kernel
theorem dX12_layTongue_20 : decode cX12_layTongue 20 = .ok (.iload_n 1, 1) := by decide +kernel
theorem dX12_layTongue_21 : decode cX12_layTongue 21 = .ok (.aload_n 0, 1) := by decide +kernel
theorem dX12_layTongue_22 : decode cX12_layTongue 22 = .ok (.getfield 59, 3) := by decide +kernel
theorem dX12_layTongue_25 : decode cX12_layTongue 25 = .ok (.invokevirtual 395, 3) := by decide +kernel
theorem dX12_layTongue_28 : decode cX12_layTongue 28 = .ok (.aload_n 0, 1) := by decide +kernel
theorem dX12_layTongue_29 : decode cX12_layTongue 29 = .ok (.aload_n 0, 1) := by decide +kernel
theorem dX12_layTongue_30 : decode cX12_layTongue 30 = .ok (.getfield 59, 3) := by decide +kernel
theorem dX12_layTongue_33 : decode cX12_layTongue 33 = .ok (.invokevirtual 399, 3) := by decide +kernel
theorem dX12_layTongue_36 : decode cX12_layTongue 36 = .ok (.istore_n 3, 1) := by decide +kernel
theorem dX12_layTongue_37 : decode cX12_layTongue 37 = .ok (.iload_n 3, 1) := by decide +kernel
theorem dX12_layTongue_38 : decode cX12_layTongue 38 = .ok (.aload_n 0, 1) := by decide +kernel
theorem dX12_layTongue_39 : decode cX12_layTongue 39 = .ok (.getfield 392, 3) := by decide +kernel
theorem dX12_layTongue_42 : decode cX12_layTongue 42 = .ok (.if_icmp .le 19, 3) := by decide +kernel
theorem dX12_layTongue_45 : decode cX12_layTongue 45 = .ok (.aload_n 0, 1) := by decide +kernel
theorem dX12_layTongue_46 : decode cX12_layTongue 46 = .ok (.iload_n 3, 1) := by decide +kernel
theorem dX12_layTongue_47 : decode cX12_layTongue 47 = .ok (.putfield 392, 3) := by decide +kernel
theorem dX12_layTongue_50 : decode cX12_layTongue 50 = .ok (.aload_n 0, 1) := by decide +kernel
theorem dX12_layTongue_51 : decode cX12_layTongue 51 = .ok (.aload_n 0, 1) := by decide +kernel
theorem dX12_layTongue_52 : decode cX12_layTongue 52 = .ok (.getfield 59, 3) := by decide +kernel
theorem dX12_layTongue_55 : decode cX12_layTongue 55 = .ok (.invokestatic 402, 3) := by decide +kernel
theorem dX12_layTongue_58 : decode cX12_layTongue 58 = .ok (.putfield 405, 3) := by decide +kernel
theorem dX12_layTongue_61 : decode cX12_layTongue 61 = .ok (.iinc 2 1, 3) := by decide +kernel
theorem dX12_layTongue_64 : decode cX12_layTongue 64 = .ok (.goto (-57), 3) := by decide +kernel
theorem dX12_layTongue_67 : decode cX12_layTongue 67 = .ok (.return_, 1) := by decide +kernel
theorem dX12_tongue_0 : decode cX12_tongue 0 = .ok (.aload_n 0, 1) := by decide +kernel
theorem dX12_tongue_1 : decode cX12_tongue 1 = .ok (.getfield 306, 3) := by decide +kernel
theorem dX12_tongue_4 : decode cX12_tongue 4 = .ok (.ifCond .eq 21, 3) := by decide +kernel
theorem dX12_tongue_7 : decode cX12_tongue 7 = .ok (.iload_n 1, 1) := by decide +kernel
theorem dX12_tongue_8 : decode cX12_tongue 8 = .ok (.iconst 1, 1) := by decide +kernel
theorem dX12_tongue_9 : decode cX12_tongue 9 = .ok (.iconst 4, 1) := by decide +kernel
theorem dX12_tongue_10 : decode cX12_tongue 10 = .ok (.invokestatic 269, 3) := by decide +kernel
theorem dX12_tongue_13 : decode cX12_tongue 13 = .ok (.ifCond .eq 12, 3) := by decide +kernel
theorem dX12_tongue_16 : decode cX12_tongue 16 = .ok (.iload_n 2, 1) := by decide +kernel
theorem dX12_tongue_17 : decode cX12_tongue 17 = .ok (.iconst 0, 1) := by decide +kernel
theorem dX12_tongue_18 : decode cX12_tongue 18 = .ok (.iconst 2, 1) := by decide +kernel
theorem dX12_tongue_19 : decode cX12_tongue 19 = .ok (.invokestatic 269, 3) := by decide +kernel
theorem dX12_tongue_22 : decode cX12_tongue 22 = .ok (.ifCond .ne 5, 3) := by decide +kernel
theorem dX12_tongue_25 : decode cX12_tongue 25 = .ok (.iconst (-1), 1) := by decide +kernel
theorem dX12_tongue_26 : decode cX12_tongue 26 = .ok (.ireturn, 1) := by decide +kernel
theorem dX12_tongue_27 : decode cX12_tongue 27 = .ok (.aload_n 0, 1) := by decide +kernel
theorem dX12_tongue_28 : decode cX12_tongue 28 = .ok (.iload_n 1, 1) := by decide +kernel
theorem dX12_tongue_29 : decode cX12_tongue 29 = .ok (.invokevirtual 408, 3) := by decide +kernel
theorem dX12_tongue_32 : decode cX12_tongue 32 = .ok (.iload_n 2, 1) := by decide +kernel
theorem dX12_tongue_33 : decode cX12_tongue 33 = .ok (.ifCond .ne 10, 3) := by decide +kernel
theorem dX12_tongue_36 : decode cX12_tongue 36 = .ok (.aload_n 0, 1) := by decide +kernel
theorem dX12_tongue_37 : decode cX12_tongue 37 = .ok (.getfield 405, 3) := by decide +kernel
theorem dX12_tongue_40 : decode cX12_tongue 40 = .ok (.goto 14, 3) := by decide +kernel
theorem dX12_tongue_43 : decode cX12_tongue 43 = .ok (.aload_n 0, 1) := by decide +kernel
theorem dX12_tongue_44 : decode cX12_tongue 44 = .ok (.aload_n 0, 1) := by decide +kernel
theorem dX12_tongue_45 : decode cX12_tongue 45 = .ok (.getfield 392, 3) := by decide +kernel
theorem dX12_tongue_48 : decode cX12_tongue 48 = .ok (.iload_n 2, 1) := by decide +kernel
theorem dX12_tongue_49 : decode cX12_tongue 49 = .ok (.iconst 1, 1) := by decide +kernel
theorem dX12_tongue_50 : decode cX12_tongue 50 = .ok (.isub, 1) := by decide +kernel
theorem dX12_tongue_51 : decode cX12_tongue 51 = .ok (.invokevirtual 386, 3) := by decide +kernel
theorem dX12_tongue_54 : decode cX12_tongue 54 = .ok (.ireturn, 1) := by decide +kernel
theorem dX12_sense_0 : decode cX12_sense 0 = .ok (.aload_n 0, 1) := by decide +kernel
theorem dX12_sense_1 : decode cX12_sense 1 = .ok (.getfield 306, 3) := by decide +kernel
theorem dX12_sense_4 : decode cX12_sense 4 = .ok (.ifCond .eq 12, 3) := by decide +kernel
theorem dX12_sense_7 : decode cX12_sense 7 = .ok (.iload_n 3, 1) := by decide +kernel
theorem dX12_sense_8 : decode cX12_sense 8 = .ok (.iconst 0, 1) := by decide +kernel
theorem dX12_sense_9 : decode cX12_sense 9 = .ok (.iconst 1, 1) := by decide +kernel
theorem dX12_sense_10 : decode cX12_sense 10 = .ok (.invokestatic 269, 3) := by decide +kernel
theorem dX12_sense_13 : decode cX12_sense 13 = .ok (.ifCond .ne 5, 3) := by decide +kernel
theorem dX12_sense_16 : decode cX12_sense 16 = .ok (.iconst (-1), 1) := by decide +kernel
theorem dX12_sense_17 : decode cX12_sense 17 = .ok (.ireturn, 1) := by decide +kernel
theorem dX12_sense_18 : decode cX12_sense 18 = .ok (.aload_n 0, 1) := by decide +kernel
theorem dX12_sense_19 : decode cX12_sense 19 = .ok (.getfield 315, 3) := by decide +kernel
theorem dX12_sense_22 : decode cX12_sense 22 = .ok (.istore 4, 2) := by decide +kernel
theorem dX12_sense_24 : decode cX12_sense 24 = .ok (.aload_n 0, 1) := by decide +kernel
theorem dX12_sense_25 : decode cX12_sense 25 = .ok (.getfield 319, 3) := by decide +kernel
theorem dX12_sense_28 : decode cX12_sense 28 = .ok (.istore 5, 2) := by decide +kernel
theorem dX12_sense_30 : decode cX12_sense 30 = .ok (.aload_n 0, 1) := by decide +kernel
theorem dX12_sense_31 : decode cX12_sense 31 = .ok (.iload_n 1, 1) := by decide +kernel
theorem dX12_sense_32 : decode cX12_sense 32 = .ok (.putfield 315, 3) := by decide +kernel
theorem dX12_sense_35 : decode cX12_sense 35 = .ok (.aload_n 0, 1) := by decide +kernel
theorem dX12_sense_36 : decode cX12_sense 36 = .ok (.iload_n 2, 1) := by decide +kernel
theorem dX12_sense_37 : decode cX12_sense 37 = .ok (.putfield 319, 3) := by decide +kernel
theorem dX12_sense_40 : decode cX12_sense 40 = .ok (.aload_n 0, 1) := by decide +kernel
theorem dX12_sense_41 : decode cX12_sense 41 = .ok (.aload_n 0, 1) := by decide +kernel
theorem dX12_sense_42 : decode cX12_sense 42 = .ok (.getfield 309, 3) := by decide +kernel
theorem dX12_sense_45 : decode cX12_sense 45 = .ok (.invokevirtual 408, 3) := by decide +kernel
theorem dX12_sense_48 : decode cX12_sense 48 = .ok (.aload_n 0, 1) := by decide +kernel
theorem dX12_sense_49 : decode cX12_sense 49 = .ok (.iload 4, 2) := by decide +kernel
theorem dX12_sense_51 : decode cX12_sense 51 = .ok (.putfield 315, 3) := by decide +kernel
theorem dX12_sense_54 : decode cX12_sense 54 = .ok (.aload_n 0, 1) := by decide +kernel
theorem dX12_sense_55 : decode cX12_sense 55 = .ok (.iload 5, 2) := by decide +kernel
theorem dX12_sense_57 : decode cX12_sense 57 = .ok (.putfield 319, 3) := by decide +kernel
theorem dX12_sense_60 : decode cX12_sense 60 = .ok (.aload_n 0, 1) := by decide +kernel
theorem dX12_sense_61 : decode cX12_sense 61 = .ok (.aload_n 0, 1) := by decide +kernel
theorem dX12_sense_62 : decode cX12_sense 62 = .ok (.getfield 392, 3) := by decide +kernel
theorem dX12_sense_65 : decode cX12_sense 65 = .ok (.iload_n 3, 1) := by decide +kernel
theorem dX12_sense_66 : decode cX12_sense 66 = .ok (.invokevirtual 386, 3) := by decide +kernel
theorem dX12_sense_69 : decode cX12_sense 69 = .ok (.ireturn, 1) := by decide +kernel
theorem dX12_isSettled_0 : decode cX12_isSettled 0 = .ok (.aload_n 0, 1) := by decide +kernel
theorem dX12_isSettled_1 : decode cX12_isSettled 1 = .ok (.iload_n 1, 1) := by decide +kernel
theorem dX12_isSettled_2 : decode cX12_isSettled 2 = .ok (.aload_n 0, 1) := by decide +kernel
theorem dX12_isSettled_3 : decode cX12_isSettled 3 = .ok (.getfield 309, 3) := by decide +kernel
theorem dX12_isSettled_6 : decode cX12_isSettled 6 = .ok (.aload_n 0, 1) := by decide +kernel
theorem dX12_isSettled_7 : decode cX12_isSettled 7 = .ok (.getfield 59, 3) := by decide +kernel
theorem dX12_isSettled_10 : decode cX12_isSettled 10 = .ok (.invokevirtual 395, 3) := by decide +kernel
theorem dX12_isSettled_13 : decode cX12_isSettled 13 = .ok (.aload_n 0, 1) := by decide +kernel
theorem dX12_isSettled_14 : decode cX12_isSettled 14 = .ok (.aload_n 0, 1) := by decide +kernel
theorem dX12_isSettled_15 : decode cX12_isSettled 15 = .ok (.getfield 59, 3) := by decide +kernel
theorem dX12_isSettled_18 : decode cX12_isSettled 18 = .ok (.invokevirtual 399, 3) := by decide +kernel
theorem dX12_isSettled_21 : decode cX12_isSettled 21 = .ok (.istore_n 2, 1) := by decide +kernel
theorem dX12_isSettled_22 : decode cX12_isSettled 22 = .ok (.iconst 0, 1) := by decide +kernel
theorem dX12_isSettled_23 : decode cX12_isSettled 23 = .ok (.istore_n 3, 1) := by decide +kernel
theorem dX12_isSettled_24 : decode cX12_isSettled 24 = .ok (.iload_n 3, 1) := by decide +kernel
theorem dX12_isSettled_25 : decode cX12_isSettled 25 = .ok (.bipush 16, 2) := by decide +kernel
theorem dX12_isSettled_27 : decode cX12_isSettled 27 = .ok (.if_icmp .ge 21, 3) := by decide +kernel
theorem dX12_isSettled_30 : decode cX12_isSettled 30 = .ok (.aload_n 0, 1) := by decide +kernel
theorem dX12_isSettled_31 : decode cX12_isSettled 31 = .ok (.getfield 68, 3) := by decide +kernel
theorem dX12_isSettled_34 : decode cX12_isSettled 34 = .ok (.iload_n 3, 1) := by decide +kernel
theorem dX12_isSettled_35 : decode cX12_isSettled 35 = .ok (.aload_n 0, 1) := by decide +kernel
theorem dX12_isSettled_36 : decode cX12_isSettled 36 = .ok (.getfield 65, 3) := by decide +kernel
theorem dX12_isSettled_39 : decode cX12_isSettled 39 = .ok (.iload_n 3, 1) := by decide +kernel
theorem dX12_isSettled_40 : decode cX12_isSettled 40 = .ok (.iaload, 1) := by decide +kernel
theorem dX12_isSettled_41 : decode cX12_isSettled 41 = .ok (.iastore, 1) := by decide +kernel
theorem dX12_isSettled_42 : decode cX12_isSettled 42 = .ok (.iinc 3 1, 3) := by decide +kernel
theorem dX12_isSettled_45 : decode cX12_isSettled 45 = .ok (.goto (-21), 3) := by decide +kernel
theorem dX12_isSettled_48 : decode cX12_isSettled 48 = .ok (.iconst 0, 1) := by decide +kernel
theorem dX12_isSettled_49 : decode cX12_isSettled 49 = .ok (.istore_n 3, 1) := by decide +kernel
theorem dX12_isSettled_50 : decode cX12_isSettled 50 = .ok (.iload_n 3, 1) := by decide +kernel
theorem dX12_isSettled_51 : decode cX12_isSettled 51 = .ok (.aload_n 0, 1) := by decide +kernel
theorem dX12_isSettled_52 : decode cX12_isSettled 52 = .ok (.getfield 309, 3) := by decide +kernel
theorem dX12_isSettled_55 : decode cX12_isSettled 55 = .ok (.aload_n 0, 1) := by decide +kernel
theorem dX12_isSettled_56 : decode cX12_isSettled 56 = .ok (.getfield 309, 3) := by decide +kernel
theorem dX12_isSettled_59 : decode cX12_isSettled 59 = .ok (.imul, 1) := by decide +kernel
theorem dX12_isSettled_60 : decode cX12_isSettled 60 = .ok (.aload_n 0, 1) := by decide +kernel
theorem dX12_isSettled_61 : decode cX12_isSettled 61 = .ok (.getfield 309, 3) := by decide +kernel
theorem dX12_isSettled_64 : decode cX12_isSettled 64 = .ok (.imul, 1) := by decide +kernel
theorem dX12_isSettled_65 : decode cX12_isSettled 65 = .ok (.aload_n 0, 1) := by decide +kernel
theorem dX12_isSettled_66 : decode cX12_isSettled 66 = .ok (.getfield 309, 3) := by decide +kernel
theorem dX12_isSettled_69 : decode cX12_isSettled 69 = .ok (.imul, 1) := by decide +kernel
theorem dX12_isSettled_70 : decode cX12_isSettled 70 = .ok (.if_icmp .ge 44, 3) := by decide +kernel
theorem dX12_isSettled_73 : decode cX12_isSettled 73 = .ok (.aload_n 0, 1) := by decide +kernel
theorem dX12_isSettled_74 : decode cX12_isSettled 74 = .ok (.iload_n 3, 1) := by decide +kernel
theorem dX12_isSettled_75 : decode cX12_isSettled 75 = .ok (.aload_n 0, 1) := by decide +kernel
theorem dX12_isSettled_76 : decode cX12_isSettled 76 = .ok (.getfield 309, 3) := by decide +kernel
theorem dX12_isSettled_79 : decode cX12_isSettled 79 = .ok (.aload_n 0, 1) := by decide +kernel
theorem dX12_isSettled_80 : decode cX12_isSettled 80 = .ok (.getfield 71, 3) := by decide +kernel
theorem dX12_isSettled_83 : decode cX12_isSettled 83 = .ok (.invokevirtual 395, 3) := by decide +kernel
theorem dX12_isSettled_86 : decode cX12_isSettled 86 = .ok (.aload_n 0, 1) := by decide +kernel
theorem dX12_isSettled_87 : decode cX12_isSettled 87 = .ok (.aload_n 0, 1) := by decide +kernel
theorem dX12_isSettled_88 : decode cX12_isSettled 88 = .ok (.getfield 71, 3) := by decide +kernel
theorem dX12_isSettled_91 : decode cX12_isSettled 91 = .ok (.invokevirtual 378, 3) := by decide +kernel
theorem dX12_isSettled_94 : decode cX12_isSettled 94 = .ok (.aload_n 0, 1) := by decide +kernel
theorem dX12_isSettled_95 : decode cX12_isSettled 95 = .ok (.aload_n 0, 1) := by decide +kernel
theorem dX12_isSettled_96 : decode cX12_isSettled 96 = .ok (.getfield 68, 3) := by decide +kernel
theorem dX12_isSettled_99 : decode cX12_isSettled 99 = .ok (.invokevirtual 382, 3) := by decide +kernel
theorem dX12_isSettled_102 : decode cX12_isSettled 102 = .ok (.iload_n 2, 1) := by decide +kernel
theorem dX12_isSettled_103 : decode cX12_isSettled 103 = .ok (.if_icmp .le 5, 3) := by decide +kernel
theorem dX12_isSettled_106 : decode cX12_isSettled 106 = .ok (.iconst 0, 1) := by decide +kernel
theorem dX12_isSettled_107 : decode cX12_isSettled 107 = .ok (.ireturn, 1) := by decide +kernel
theorem dX12_isSettled_108 : decode cX12_isSettled 108 = .ok (.iinc 3 1, 3) := by decide +kernel
theorem dX12_isSettled_111 : decode cX12_isSettled 111 = .ok (.goto (-61), 3) := by decide +kernel
theorem dX12_isSettled_114 : decode cX12_isSettled 114 = .ok (.iconst 1, 1) := by decide +kernel
theorem dX12_isSettled_115 : decode cX12_isSettled 115 = .ok (.ireturn, 1) := by decide +kernel
theorem dX12_settled_0 : decode cX12_settled 0 = .ok (.aload_n 0, 1) := by decide +kernel
theorem dX12_settled_1 : decode cX12_settled 1 = .ok (.getfield 306, 3) := by decide +kernel
theorem dX12_settled_4 : decode cX12_settled 4 = .ok (.ifCond .eq 8, 3) := by decide +kernel
theorem dX12_settled_7 : decode cX12_settled 7 = .ok (.iload_n 1, 1) := by decide +kernel
theorem dX12_settled_8 : decode cX12_settled 8 = .ok (.iconst (-1), 1) := by decide +kernel
theorem dX12_settled_9 : decode cX12_settled 9 = .ok (.if_icmp .ge 5, 3) := by decide +kernel
theorem dX12_settled_12 : decode cX12_settled 12 = .ok (.iconst (-1), 1) := by decide +kernel
theorem dX12_settled_13 : decode cX12_settled 13 = .ok (.ireturn, 1) := by decide +kernel
theorem dX12_settled_14 : decode cX12_settled 14 = .ok (.iconst 0, 1) := by decide +kernel
theorem dX12_settled_15 : decode cX12_settled 15 = .ok (.istore_n 2, 1) := by decide +kernel
theorem dX12_settled_16 : decode cX12_settled 16 = .ok (.iconst 0, 1) := by decide +kernel
theorem dX12_settled_17 : decode cX12_settled 17 = .ok (.istore_n 3, 1) := by decide +kernel
theorem dX12_settled_18 : decode cX12_settled 18 = .ok (.iload_n 3, 1) := by decide +kernel
theorem dX12_settled_19 : decode cX12_settled 19 = .ok (.aload_n 0, 1) := by decide +kernel
theorem dX12_settled_20 : decode cX12_settled 20 = .ok (.getfield 309, 3) := by decide +kernel
theorem dX12_settled_23 : decode cX12_settled 23 = .ok (.aload_n 0, 1) := by decide +kernel
theorem dX12_settled_24 : decode cX12_settled 24 = .ok (.getfield 309, 3) := by decide +kernel
theorem dX12_settled_27 : decode cX12_settled 27 = .ok (.imul, 1) := by decide +kernel
theorem dX12_settled_28 : decode cX12_settled 28 = .ok (.aload_n 0, 1) := by decide +kernel
theorem dX12_settled_29 : decode cX12_settled 29 = .ok (.getfield 309, 3) := by decide +kernel
theorem dX12_settled_32 : decode cX12_settled 32 = .ok (.imul, 1) := by decide +kernel
theorem dX12_settled_33 : decode cX12_settled 33 = .ok (.aload_n 0, 1) := by decide +kernel
theorem dX12_settled_34 : decode cX12_settled 34 = .ok (.getfield 309, 3) := by decide +kernel
theorem dX12_settled_37 : decode cX12_settled 37 = .ok (.imul, 1) := by decide +kernel
theorem dX12_settled_38 : decode cX12_settled 38 = .ok (.if_icmp .ge 46, 3) := by decide +kernel
theorem dX12_settled_41 : decode cX12_settled 41 = .ok (.aload_n 0, 1) := by decide +kernel
theorem dX12_settled_42 : decode cX12_settled 42 = .ok (.iload_n 3, 1) := by decide +kernel
theorem dX12_settled_43 : decode cX12_settled 43 = .ok (.invokevirtual 411, 3) := by decide +kernel
theorem dX12_settled_46 : decode cX12_settled 46 = .ok (.ifCond .eq 32, 3) := by decide +kernel
theorem dX12_settled_49 : decode cX12_settled 49 = .ok (.iload_n 2, 1) := by decide +kernel
theorem dX12_settled_50 : decode cX12_settled 50 = .ok (.iload_n 1, 1) := by decide +kernel
theorem dX12_settled_51 : decode cX12_settled 51 = .ok (.if_icmp .ne 24, 3) := by decide +kernel
theorem dX12_settled_54 : decode cX12_settled 54 = .ok (.aload_n 0, 1) := by decide +kernel
theorem dX12_settled_55 : decode cX12_settled 55 = .ok (.iload_n 3, 1) := by decide +kernel
theorem dX12_settled_56 : decode cX12_settled 56 = .ok (.aload_n 0, 1) := by decide +kernel
theorem dX12_settled_57 : decode cX12_settled 57 = .ok (.getfield 309, 3) := by decide +kernel
theorem dX12_settled_60 : decode cX12_settled 60 = .ok (.aload_n 0, 1) := by decide +kernel
theorem dX12_settled_61 : decode cX12_settled 61 = .ok (.getfield 59, 3) := by decide +kernel
theorem dX12_settled_64 : decode cX12_settled 64 = .ok (.invokevirtual 395, 3) := by decide +kernel
theorem dX12_settled_67 : decode cX12_settled 67 = .ok (.aload_n 0, 1) := by decide +kernel
theorem dX12_settled_68 : decode cX12_settled 68 = .ok (.getfield 59, 3) := by decide +kernel
theorem dX12_settled_71 : decode cX12_settled 71 = .ok (.invokestatic 402, 3) := by decide +kernel
theorem dX12_settled_74 : decode cX12_settled 74 = .ok (.ireturn, 1) := by decide +kernel
theorem dX12_settled_75 : decode cX12_settled 75 = .ok (.iinc 2 1, 3) := by decide +kernel
theorem dX12_settled_78 : decode cX12_settled 78 = .ok (.iinc 3 1, 3) := by decide +kernel
theorem dX12_settled_81 : decode cX12_settled 81 = .ok (.goto (-63), 3) := by decide +kernel
theorem dX12_settled_84 : decode cX12_settled 84 = .ok (.iload_n 1, 1) := by decide +kernel
theorem dX12_settled_85 : decode cX12_settled 85 = .ok (.iconst (-1), 1) := by decide +kernel
theorem dX12_settled_86 : decode cX12_settled 86 = .ok (.if_icmp .ne 7, 3) := by decide +kernel
theorem dX12_settled_89 : decode cX12_settled 89 = .ok (.iload_n 2, 1) := by decide +kernel
theorem dX12_settled_90 : decode cX12_settled 90 = .ok (.goto 4, 3) := by decide +kernel
theorem dX12_settled_93 : decode cX12_settled 93 = .ok (.iconst (-1), 1) := by decide +kernel
theorem dX12_settled_94 : decode cX12_settled 94 = .ok (.ireturn, 1) := by decide +kernel
theorem dX12_worst_0 : decode cX12_worst 0 = .ok (.aload_n 0, 1) := by decide +kernel
theorem dX12_worst_1 : decode cX12_worst 1 = .ok (.getfield 306, 3) := by decide +kernel
theorem dX12_worst_4 : decode cX12_worst 4 = .ok (.ifCond .eq 12, 3) := by decide +kernel
theorem dX12_worst_7 : decode cX12_worst 7 = .ok (.iload_n 1, 1) := by decide +kernel
theorem dX12_worst_8 : decode cX12_worst 8 = .ok (.iconst 0, 1) := by decide +kernel
theorem dX12_worst_9 : decode cX12_worst 9 = .ok (.iconst 1, 1) := by decide +kernel
theorem dX12_worst_10 : decode cX12_worst 10 = .ok (.invokestatic 269, 3) := by decide +kernel
theorem dX12_worst_13 : decode cX12_worst 13 = .ok (.ifCond .ne 5, 3) := by decide +kernel
theorem dX12_worst_16 : decode cX12_worst 16 = .ok (.iconst (-1), 1) := by decide +kernel
theorem dX12_worst_17 : decode cX12_worst 17 = .ok (.ireturn, 1) := by decide +kernel
theorem dX12_worst_18 : decode cX12_worst 18 = .ok (.iconst (-1), 1) := by decide +kernel
theorem dX12_worst_19 : decode cX12_worst 19 = .ok (.istore_n 2, 1) := by decide +kernel
theorem dX12_worst_20 : decode cX12_worst 20 = .ok (.iconst 0, 1) := by decide +kernel
theorem dX12_worst_21 : decode cX12_worst 21 = .ok (.istore_n 3, 1) := by decide +kernel
theorem dX12_worst_22 : decode cX12_worst 22 = .ok (.iload_n 3, 1) := by decide +kernel
theorem dX12_worst_23 : decode cX12_worst 23 = .ok (.aload_n 0, 1) := by decide +kernel
theorem dX12_worst_24 : decode cX12_worst 24 = .ok (.getfield 309, 3) := by decide +kernel
theorem dX12_worst_27 : decode cX12_worst 27 = .ok (.aload_n 0, 1) := by decide +kernel
theorem dX12_worst_28 : decode cX12_worst 28 = .ok (.getfield 309, 3) := by decide +kernel
theorem dX12_worst_31 : decode cX12_worst 31 = .ok (.imul, 1) := by decide +kernel
theorem dX12_worst_32 : decode cX12_worst 32 = .ok (.aload_n 0, 1) := by decide +kernel
theorem dX12_worst_33 : decode cX12_worst 33 = .ok (.getfield 309, 3) := by decide +kernel
theorem dX12_worst_36 : decode cX12_worst 36 = .ok (.imul, 1) := by decide +kernel
theorem dX12_worst_37 : decode cX12_worst 37 = .ok (.aload_n 0, 1) := by decide +kernel
theorem dX12_worst_38 : decode cX12_worst 38 = .ok (.getfield 309, 3) := by decide +kernel
theorem dX12_worst_41 : decode cX12_worst 41 = .ok (.imul, 1) := by decide +kernel
theorem dX12_worst_42 : decode cX12_worst 42 = .ok (.if_icmp .ge 57, 3) := by decide +kernel
theorem dX12_worst_45 : decode cX12_worst 45 = .ok (.aload_n 0, 1) := by decide +kernel
theorem dX12_worst_46 : decode cX12_worst 46 = .ok (.iload_n 3, 1) := by decide +kernel
theorem dX12_worst_47 : decode cX12_worst 47 = .ok (.invokevirtual 411, 3) := by decide +kernel
theorem dX12_worst_50 : decode cX12_worst 50 = .ok (.ifCond .eq 43, 3) := by decide +kernel
theorem dX12_worst_53 : decode cX12_worst 53 = .ok (.aload_n 0, 1) := by decide +kernel
theorem dX12_worst_54 : decode cX12_worst 54 = .ok (.iload_n 3, 1) := by decide +kernel
theorem dX12_worst_55 : decode cX12_worst 55 = .ok (.aload_n 0, 1) := by decide +kernel
theorem dX12_worst_56 : decode cX12_worst 56 = .ok (.getfield 309, 3) := by decide +kernel
theorem dX12_worst_59 : decode cX12_worst 59 = .ok (.aload_n 0, 1) := by decide +kernel
theorem dX12_worst_60 : decode cX12_worst 60 = .ok (.getfield 59, 3) := by decide +kernel
theorem dX12_worst_63 : decode cX12_worst 63 = .ok (.invokevirtual 395, 3) := by decide +kernel
theorem dX12_worst_66 : decode cX12_worst 66 = .ok (.aload_n 0, 1) := by decide +kernel
theorem dX12_worst_67 : decode cX12_worst 67 = .ok (.aload_n 0, 1) := by decide +kernel
theorem dX12_worst_68 : decode cX12_worst 68 = .ok (.getfield 59, 3) := by decide +kernel
theorem dX12_worst_71 : decode cX12_worst 71 = .ok (.invokevirtual 399, 3) := by decide +kernel
theorem dX12_worst_74 : decode cX12_worst 74 = .ok (.istore 4, 2) := by decide +kernel
theorem dX12_worst_76 : decode cX12_worst 76 = .ok (.iload_n 2, 1) := by decide +kernel
theorem dX12_worst_77 : decode cX12_worst 77 = .ok (.iconst (-1), 1) := by decide +kernel
theorem dX12_worst_78 : decode cX12_worst 78 = .ok (.if_icmp .ne 8, 3) := by decide +kernel
theorem dX12_worst_81 : decode cX12_worst 81 = .ok (.iload 4, 2) := by decide +kernel
theorem dX12_worst_83 : decode cX12_worst 83 = .ok (.goto 9, 3) := by decide +kernel
theorem dX12_worst_86 : decode cX12_worst 86 = .ok (.iload_n 2, 1) := by decide +kernel
theorem dX12_worst_87 : decode cX12_worst 87 = .ok (.iload 4, 2) := by decide +kernel
theorem dX12_worst_89 : decode cX12_worst 89 = .ok (.invokestatic 349, 3) := by decide +kernel
theorem dX12_worst_92 : decode cX12_worst 92 = .ok (.istore_n 2, 1) := by decide +kernel
theorem dX12_worst_93 : decode cX12_worst 93 = .ok (.iinc 3 1, 3) := by decide +kernel
theorem dX12_worst_96 : decode cX12_worst 96 = .ok (.goto (-74), 3) := by decide +kernel
theorem dX12_worst_99 : decode cX12_worst 99 = .ok (.aload_n 0, 1) := by decide +kernel
theorem dX12_worst_100 : decode cX12_worst 100 = .ok (.iload_n 2, 1) := by decide +kernel
theorem dX12_worst_101 : decode cX12_worst 101 = .ok (.iload_n 1, 1) := by decide +kernel
theorem dX12_worst_102 : decode cX12_worst 102 = .ok (.invokevirtual 386, 3) := by decide +kernel
theorem dX12_worst_105 : decode cX12_worst 105 = .ok (.ireturn, 1) := by decide +kernel
theorem dX12_layWords_0 : decode cX12_layWords 0 = .ok (.iconst 0, 1) := by decide +kernel
theorem dX12_layWords_1 : decode cX12_layWords 1 = .ok (.istore_n 3, 1) := by decide +kernel
theorem dX12_layWords_2 : decode cX12_layWords 2 = .ok (.iconst 0, 1) := by decide +kernel
theorem dX12_layWords_3 : decode cX12_layWords 3 = .ok (.istore 4, 2) := by decide +kernel
theorem dX12_layWords_5 : decode cX12_layWords 5 = .ok (.iload 4, 2) := by decide +kernel
theorem dX12_layWords_7 : decode cX12_layWords 7 = .ok (.iconst 1, 1) := by decide +kernel
theorem dX12_layWords_8 : decode cX12_layWords 8 = .ok (.iload_n 1, 1) := by decide +kernel
theorem dX12_layWords_9 : decode cX12_layWords 9 = .ok (.ishl, 1) := by decide +kernel
theorem dX12_layWords_10 : decode cX12_layWords 10 = .ok (.if_icmp .ge 72, 3) := by decide +kernel
theorem dX12_layWords_13 : decode cX12_layWords 13 = .ok (.iconst 1, 1) := by decide +kernel
theorem dX12_layWords_14 : decode cX12_layWords 14 = .ok (.istore 5, 2) := by decide +kernel
theorem dX12_layWords_16 : decode cX12_layWords 16 = .ok (.iconst 0, 1) := by decide +kernel
theorem dX12_layWords_17 : decode cX12_layWords 17 = .ok (.istore 6, 2) := by decide +kernel
theorem dX12_layWords_19 : decode cX12_layWords 19 = .ok (.iload 6, 2) := by decide +kernel
theorem dX12_layWords_21 : decode cX12_layWords 21 = .ok (.iload_n 3, 1) := by decide +kernel
theorem dX12_layWords_22 : decode cX12_layWords 22 = .ok (.if_icmp .ge 38, 3) := by decide +kernel
theorem dX12_layWords_25 : decode cX12_layWords 25 = .ok (.iload 5, 2) := by decide +kernel
theorem dX12_layWords_27 : decode cX12_layWords 27 = .ok (.ifCond .eq 24, 3) := by decide +kernel
theorem dX12_layWords_30 : decode cX12_layWords 30 = .ok (.iload 4, 2) := by decide +kernel
theorem dX12_layWords_32 : decode cX12_layWords 32 = .ok (.aload_n 0, 1) := by decide +kernel
theorem dX12_layWords_33 : decode cX12_layWords 33 = .ok (.getfield 74, 3) := by decide +kernel
theorem dX12_layWords_36 : decode cX12_layWords 36 = .ok (.iload 6, 2) := by decide +kernel
theorem dX12_layWords_38 : decode cX12_layWords 38 = .ok (.iaload, 1) := by decide +kernel
theorem dX12_layWords_39 : decode cX12_layWords 39 = .ok (.ixor, 1) := by decide +kernel
theorem dX12_layWords_40 : decode cX12_layWords 40 = .ok (.invokestatic 414, 3) := by decide +kernel
theorem dX12_layWords_43 : decode cX12_layWords 43 = .ok (.iload_n 2, 1) := by decide +kernel
theorem dX12_layWords_44 : decode cX12_layWords 44 = .ok (.if_icmp .le 7, 3) := by decide +kernel
theorem dX12_layWords_47 : decode cX12_layWords 47 = .ok (.iconst 1, 1) := by decide +kernel
theorem dX12_layWords_48 : decode cX12_layWords 48 = .ok (.goto 4, 3) := by decide +kernel
theorem dX12_layWords_51 : decode cX12_layWords 51 = .ok (.iconst 0, 1) := by decide +kernel
theorem dX12_layWords_52 : decode cX12_layWords 52 = .ok (.istore 5, 2) := by decide +kernel
theorem dX12_layWords_54 : decode cX12_layWords 54 = .ok (.iinc 6 1, 3) := by decide +kernel
theorem dX12_layWords_57 : decode cX12_layWords 57 = .ok (.goto (-38), 3) := by decide +kernel
theorem dX12_layWords_60 : decode cX12_layWords 60 = .ok (.iload 5, 2) := by decide +kernel
theorem dX12_layWords_62 : decode cX12_layWords 62 = .ok (.ifCond .eq 14, 3) := by decide +kernel
theorem dX12_layWords_65 : decode cX12_layWords 65 = .ok (.aload_n 0, 1) := by decide +kernel
theorem dX12_layWords_66 : decode cX12_layWords 66 = .ok (.getfield 74, 3) := by decide +kernel
theorem dX12_layWords_69 : decode cX12_layWords 69 = .ok (.iload_n 3, 1) := by decide +kernel
theorem dX12_layWords_70 : decode cX12_layWords 70 = .ok (.iload 4, 2) := by decide +kernel
theorem dX12_layWords_72 : decode cX12_layWords 72 = .ok (.iastore, 1) := by decide +kernel
theorem dX12_layWords_73 : decode cX12_layWords 73 = .ok (.iinc 3 1, 3) := by decide +kernel
theorem dX12_layWords_76 : decode cX12_layWords 76 = .ok (.iinc 4 1, 3) := by decide +kernel
theorem dX12_layWords_79 : decode cX12_layWords 79 = .ok (.goto (-74), 3) := by decide +kernel
theorem dX12_layWords_82 : decode cX12_layWords 82 = .ok (.iload_n 3, 1) := by decide +kernel
theorem dX12_layWords_83 : decode cX12_layWords 83 = .ok (.ireturn, 1) := by decide +kernel
theorem dX12_code_0 : decode cX12_code 0 = .ok (.iload_n 1, 1) := by decide +kernel
theorem dX12_code_1 : decode cX12_code 1 = .ok (.iconst 1, 1) := by decide +kernel
theorem dX12_code_2 : decode cX12_code 2 = .ok (.bipush 16, 2) := by decide +kernel
theorem dX12_code_4 : decode cX12_code 4 = .ok (.invokestatic 269, 3) := by decide +kernel
theorem dX12_code_7 : decode cX12_code 7 = .ok (.ifCond .eq 23, 3) := by decide +kernel
theorem dX12_code_10 : decode cX12_code 10 = .ok (.iload_n 2, 1) := by decide +kernel
theorem dX12_code_11 : decode cX12_code 11 = .ok (.iconst 0, 1) := by decide +kernel
theorem dX12_code_12 : decode cX12_code 12 = .ok (.iconst 3, 1) := by decide +kernel
theorem dX12_code_13 : decode cX12_code 13 = .ok (.invokestatic 269, 3) := by decide +kernel
theorem dX12_code_16 : decode cX12_code 16 = .ok (.ifCond .eq 14, 3) := by decide +kernel
theorem dX12_code_19 : decode cX12_code 19 = .ok (.iload_n 3, 1) := by decide +kernel
theorem dX12_code_20 : decode cX12_code 20 = .ok (.iconst (-1), 1) := by decide +kernel
theorem dX12_code_21 : decode cX12_code 21 = .ok (.iload_n 1, 1) := by decide +kernel
theorem dX12_code_22 : decode cX12_code 22 = .ok (.iconst 1, 1) := by decide +kernel
theorem dX12_code_23 : decode cX12_code 23 = .ok (.isub, 1) := by decide +kernel
theorem dX12_code_24 : decode cX12_code 24 = .ok (.invokestatic 269, 3) := by decide +kernel
theorem dX12_code_27 : decode cX12_code 27 = .ok (.ifCond .ne 5, 3) := by decide +kernel
theorem dX12_code_30 : decode cX12_code 30 = .ok (.iconst (-1), 1) := by decide +kernel
theorem dX12_code_31 : decode cX12_code 31 = .ok (.ireturn, 1) := by decide +kernel
theorem dX12_code_32 : decode cX12_code 32 = .ok (.iconst 1, 1) := by decide +kernel
theorem dX12_code_33 : decode cX12_code 33 = .ok (.istore 4, 2) := by decide +kernel
theorem dX12_code_35 : decode cX12_code 35 = .ok (.iload 4, 2) := by decide +kernel
theorem dX12_code_37 : decode cX12_code 37 = .ok (.bipush 8, 2) := by decide +kernel
theorem dX12_code_39 : decode cX12_code 39 = .ok (.if_icmp .gt 37, 3) := by decide +kernel
theorem dX12_code_42 : decode cX12_code 42 = .ok (.aload_n 0, 1) := by decide +kernel
theorem dX12_code_43 : decode cX12_code 43 = .ok (.iload 4, 2) := by decide +kernel
theorem dX12_code_45 : decode cX12_code 45 = .ok (.iload_n 2, 1) := by decide +kernel
theorem dX12_code_46 : decode cX12_code 46 = .ok (.invokevirtual 419, 3) := by decide +kernel
theorem dX12_code_49 : decode cX12_code 49 = .ok (.iload_n 1, 1) := by decide +kernel
theorem dX12_code_50 : decode cX12_code 50 = .ok (.if_icmp .lt 20, 3) := by decide +kernel
theorem dX12_code_53 : decode cX12_code 53 = .ok (.iload_n 3, 1) := by decide +kernel
theorem dX12_code_54 : decode cX12_code 54 = .ok (.iconst (-1), 1) := by decide +kernel
theorem dX12_code_55 : decode cX12_code 55 = .ok (.if_icmp .ne 8, 3) := by decide +kernel
theorem dX12_code_58 : decode cX12_code 58 = .ok (.iload 4, 2) := by decide +kernel
theorem dX12_code_60 : decode cX12_code 60 = .ok (.goto 9, 3) := by decide +kernel
theorem dX12_code_63 : decode cX12_code 63 = .ok (.aload_n 0, 1) := by decide +kernel
theorem dX12_code_64 : decode cX12_code 64 = .ok (.getfield 74, 3) := by decide +kernel
theorem dX12_code_67 : decode cX12_code 67 = .ok (.iload_n 3, 1) := by decide +kernel
theorem dX12_code_68 : decode cX12_code 68 = .ok (.iaload, 1) := by decide +kernel
theorem dX12_code_69 : decode cX12_code 69 = .ok (.ireturn, 1) := by decide +kernel
theorem dX12_code_70 : decode cX12_code 70 = .ok (.iinc 4 1, 3) := by decide +kernel
theorem dX12_code_73 : decode cX12_code 73 = .ok (.goto (-38), 3) := by decide +kernel
theorem dX12_code_76 : decode cX12_code 76 = .ok (.iconst (-1), 1) := by decide +kernel
theorem dX12_code_77 : decode cX12_code 77 = .ok (.ireturn, 1) := by decide +kernel
theorem dX12_shelve_0 : decode cX12_shelve 0 = .ok (.aload_n 0, 1) := by decide +kernel
theorem dX12_shelve_1 : decode cX12_shelve 1 = .ok (.getfield 306, 3) := by decide +kernel
theorem dX12_shelve_4 : decode cX12_shelve 4 = .ok (.ifCond .eq 12, 3) := by decide +kernel
theorem dX12_shelve_7 : decode cX12_shelve 7 = .ok (.iload_n 2, 1) := by decide +kernel
theorem dX12_shelve_8 : decode cX12_shelve 8 = .ok (.iconst 0, 1) := by decide +kernel
theorem dX12_shelve_9 : decode cX12_shelve 9 = .ok (.iconst 3, 1) := by decide +kernel
theorem dX12_shelve_10 : decode cX12_shelve 10 = .ok (.invokestatic 269, 3) := by decide +kernel
theorem dX12_shelve_13 : decode cX12_shelve 13 = .ok (.ifCond .ne 5, 3) := by decide +kernel
theorem dX12_shelve_16 : decode cX12_shelve 16 = .ok (.iconst 0, 1) := by decide +kernel
theorem dX12_shelve_17 : decode cX12_shelve 17 = .ok (.ireturn, 1) := by decide +kernel
theorem dX12_shelve_18 : decode cX12_shelve 18 = .ok (.iload_n 1, 1) := by decide +kernel
theorem dX12_shelve_19 : decode cX12_shelve 19 = .ok (.ifCond .eq 44, 3) := by decide +kernel
theorem dX12_shelve_22 : decode cX12_shelve 22 = .ok (.aload_n 0, 1) := by decide +kernel
theorem dX12_shelve_23 : decode cX12_shelve 23 = .ok (.getfield 83, 3) := by decide +kernel
theorem dX12_shelve_26 : decode cX12_shelve 26 = .ok (.iload_n 2, 1) := by decide +kernel
theorem dX12_shelve_27 : decode cX12_shelve 27 = .ok (.iconst 1, 1) := by decide +kernel
theorem dX12_shelve_28 : decode cX12_shelve 28 = .ok (.bastore, 1) := by decide +kernel
theorem dX12_shelve_29 : decode cX12_shelve 29 = .ok (.iconst 0, 1) := by decide +kernel
theorem dX12_shelve_30 : decode cX12_shelve 30 = .ok (.istore_n 3, 1) := by decide +kernel
theorem dX12_shelve_31 : decode cX12_shelve 31 = .ok (.iload_n 3, 1) := by decide +kernel
theorem dX12_shelve_32 : decode cX12_shelve 32 = .ok (.bipush 16, 2) := by decide +kernel
theorem dX12_shelve_34 : decode cX12_shelve 34 = .ok (.if_icmp .ge 26, 3) := by decide +kernel
theorem dX12_shelve_37 : decode cX12_shelve 37 = .ok (.aload_n 0, 1) := by decide +kernel
theorem dX12_shelve_38 : decode cX12_shelve 38 = .ok (.getfield 80, 3) := by decide +kernel
theorem dX12_shelve_41 : decode cX12_shelve 41 = .ok (.bipush 16, 2) := by decide +kernel
theorem dX12_shelve_43 : decode cX12_shelve 43 = .ok (.iload_n 2, 1) := by decide +kernel
theorem dX12_shelve_44 : decode cX12_shelve 44 = .ok (.imul, 1) := by decide +kernel
theorem dX12_shelve_45 : decode cX12_shelve 45 = .ok (.iload_n 3, 1) := by decide +kernel
theorem dX12_shelve_46 : decode cX12_shelve 46 = .ok (.iadd, 1) := by decide +kernel
theorem dX12_shelve_47 : decode cX12_shelve 47 = .ok (.aload_n 0, 1) := by decide +kernel
theorem dX12_shelve_48 : decode cX12_shelve 48 = .ok (.getfield 52, 3) := by decide +kernel
theorem dX12_shelve_51 : decode cX12_shelve 51 = .ok (.iload_n 3, 1) := by decide +kernel
theorem dX12_shelve_52 : decode cX12_shelve 52 = .ok (.iaload, 1) := by decide +kernel
theorem dX12_shelve_53 : decode cX12_shelve 53 = .ok (.iastore, 1) := by decide +kernel
theorem dX12_shelve_54 : decode cX12_shelve 54 = .ok (.iinc 3 1, 3) := by decide +kernel
theorem dX12_shelve_57 : decode cX12_shelve 57 = .ok (.goto (-26), 3) := by decide +kernel
theorem dX12_shelve_60 : decode cX12_shelve 60 = .ok (.goto 16, 3) := by decide +kernel
theorem dX12_shelve_63 : decode cX12_shelve 63 = .ok (.aload_n 0, 1) := by decide +kernel
theorem dX12_shelve_64 : decode cX12_shelve 64 = .ok (.getfield 77, 3) := by decide +kernel
theorem dX12_shelve_67 : decode cX12_shelve 67 = .ok (.iload_n 2, 1) := by decide +kernel
theorem dX12_shelve_68 : decode cX12_shelve 68 = .ok (.aload_n 0, 1) := by decide +kernel
theorem dX12_shelve_69 : decode cX12_shelve 69 = .ok (.getfield 49, 3) := by decide +kernel
theorem dX12_shelve_72 : decode cX12_shelve 72 = .ok (.invokestatic 402, 3) := by decide +kernel
theorem dX12_shelve_75 : decode cX12_shelve 75 = .ok (.iastore, 1) := by decide +kernel
theorem dX12_shelve_76 : decode cX12_shelve 76 = .ok (.iconst 1, 1) := by decide +kernel
theorem dX12_shelve_77 : decode cX12_shelve 77 = .ok (.ireturn, 1) := by decide +kernel
theorem dX12_areShelved_0 : decode cX12_areShelved 0 = .ok (.iload_n 1, 1) := by decide +kernel
theorem dX12_areShelved_1 : decode cX12_areShelved 1 = .ok (.iconst 0, 1) := by decide +kernel
theorem dX12_areShelved_2 : decode cX12_areShelved 2 = .ok (.iconst 3, 1) := by decide +kernel
theorem dX12_areShelved_3 : decode cX12_areShelved 3 = .ok (.invokestatic 269, 3) := by decide +kernel
theorem dX12_areShelved_6 : decode cX12_areShelved 6 = .ok (.ifCond .eq 35, 3) := by decide +kernel
theorem dX12_areShelved_9 : decode cX12_areShelved 9 = .ok (.iload_n 2, 1) := by decide +kernel
theorem dX12_areShelved_10 : decode cX12_areShelved 10 = .ok (.iconst 0, 1) := by decide +kernel
theorem dX12_areShelved_11 : decode cX12_areShelved 11 = .ok (.iconst 3, 1) := by decide +kernel
theorem dX12_areShelved_12 : decode cX12_areShelved 12 = .ok (.invokestatic 269, 3) := by decide +kernel
theorem dX12_areShelved_15 : decode cX12_areShelved 15 = .ok (.ifCond .eq 26, 3) := by decide +kernel
theorem dX12_areShelved_18 : decode cX12_areShelved 18 = .ok (.aload_n 0, 1) := by decide +kernel
theorem dX12_areShelved_19 : decode cX12_areShelved 19 = .ok (.getfield 77, 3) := by decide +kernel
theorem dX12_areShelved_22 : decode cX12_areShelved 22 = .ok (.iload_n 1, 1) := by decide +kernel
theorem dX12_areShelved_23 : decode cX12_areShelved 23 = .ok (.iaload, 1) := by decide +kernel
theorem dX12_areShelved_24 : decode cX12_areShelved 24 = .ok (.iconst (-1), 1) := by decide +kernel
theorem dX12_areShelved_25 : decode cX12_areShelved 25 = .ok (.if_icmp .eq 16, 3) := by decide +kernel
theorem dX12_areShelved_28 : decode cX12_areShelved 28 = .ok (.aload_n 0, 1) := by decide +kernel
theorem dX12_areShelved_29 : decode cX12_areShelved 29 = .ok (.getfield 83, 3) := by decide +kernel
theorem dX12_areShelved_32 : decode cX12_areShelved 32 = .ok (.iload_n 2, 1) := by decide +kernel
theorem dX12_areShelved_33 : decode cX12_areShelved 33 = .ok (.baload, 1) := by decide +kernel
theorem dX12_areShelved_34 : decode cX12_areShelved 34 = .ok (.ifCond .eq 7, 3) := by decide +kernel
theorem dX12_areShelved_37 : decode cX12_areShelved 37 = .ok (.iconst 1, 1) := by decide +kernel
theorem dX12_areShelved_38 : decode cX12_areShelved 38 = .ok (.goto 4, 3) := by decide +kernel
theorem dX12_areShelved_41 : decode cX12_areShelved 41 = .ok (.iconst 0, 1) := by decide +kernel
theorem dX12_areShelved_42 : decode cX12_areShelved 42 = .ok (.ireturn, 1) := by decide +kernel
theorem dX12_fitOf_0 : decode cX12_fitOf 0 = .ok (.aload_n 0, 1) := by decide +kernel
theorem dX12_fitOf_1 : decode cX12_fitOf 1 = .ok (.getfield 77, 3) := by decide +kernel
theorem dX12_fitOf_4 : decode cX12_fitOf 4 = .ok (.iload_n 1, 1) := by decide +kernel
theorem dX12_fitOf_5 : decode cX12_fitOf 5 = .ok (.iaload, 1) := by decide +kernel
theorem dX12_fitOf_6 : decode cX12_fitOf 6 = .ok (.iconst 4, 1) := by decide +kernel
theorem dX12_fitOf_7 : decode cX12_fitOf 7 = .ok (.aload_n 0, 1) := by decide +kernel
theorem dX12_fitOf_8 : decode cX12_fitOf 8 = .ok (.getfield 71, 3) := by decide +kernel
theorem dX12_fitOf_11 : decode cX12_fitOf 11 = .ok (.invokestatic 359, 3) := by decide +kernel
theorem dX12_fitOf_14 : decode cX12_fitOf 14 = .ok (.pop, 1) := by decide +kernel
theorem dX12_fitOf_15 : decode cX12_fitOf 15 = .ok (.aload_n 0, 1) := by decide +kernel
theorem dX12_fitOf_16 : decode cX12_fitOf 16 = .ok (.aload_n 0, 1) := by decide +kernel
theorem dX12_fitOf_17 : decode cX12_fitOf 17 = .ok (.getfield 71, 3) := by decide +kernel
theorem dX12_fitOf_20 : decode cX12_fitOf 20 = .ok (.invokevirtual 378, 3) := by decide +kernel
theorem dX12_fitOf_23 : decode cX12_fitOf 23 = .ok (.iconst 0, 1) := by decide +kernel
theorem dX12_fitOf_24 : decode cX12_fitOf 24 = .ok (.istore_n 3, 1) := by decide +kernel
theorem dX12_fitOf_25 : decode cX12_fitOf 25 = .ok (.iload_n 3, 1) := by decide +kernel
theorem dX12_fitOf_26 : decode cX12_fitOf 26 = .ok (.bipush 16, 2) := by decide +kernel
theorem dX12_fitOf_28 : decode cX12_fitOf 28 = .ok (.if_icmp .ge 26, 3) := by decide +kernel
theorem dX12_fitOf_31 : decode cX12_fitOf 31 = .ok (.aload_n 0, 1) := by decide +kernel
theorem dX12_fitOf_32 : decode cX12_fitOf 32 = .ok (.getfield 68, 3) := by decide +kernel
theorem dX12_fitOf_35 : decode cX12_fitOf 35 = .ok (.iload_n 3, 1) := by decide +kernel
theorem dX12_fitOf_36 : decode cX12_fitOf 36 = .ok (.aload_n 0, 1) := by decide +kernel
theorem dX12_fitOf_37 : decode cX12_fitOf 37 = .ok (.getfield 80, 3) := by decide +kernel
theorem dX12_fitOf_40 : decode cX12_fitOf 40 = .ok (.bipush 16, 2) := by decide +kernel
theorem dX12_fitOf_42 : decode cX12_fitOf 42 = .ok (.iload_n 2, 1) := by decide +kernel
theorem dX12_fitOf_43 : decode cX12_fitOf 43 = .ok (.imul, 1) := by decide +kernel
theorem dX12_fitOf_44 : decode cX12_fitOf 44 = .ok (.iload_n 3, 1) := by decide +kernel
theorem dX12_fitOf_45 : decode cX12_fitOf 45 = .ok (.iadd, 1) := by decide +kernel
theorem dX12_fitOf_46 : decode cX12_fitOf 46 = .ok (.iaload, 1) := by decide +kernel
theorem dX12_fitOf_47 : decode cX12_fitOf 47 = .ok (.iastore, 1) := by decide +kernel
theorem dX12_fitOf_48 : decode cX12_fitOf 48 = .ok (.iinc 3 1, 3) := by decide +kernel
theorem dX12_fitOf_51 : decode cX12_fitOf 51 = .ok (.goto (-26), 3) := by decide +kernel
theorem dX12_fitOf_54 : decode cX12_fitOf 54 = .ok (.aload_n 0, 1) := by decide +kernel
theorem dX12_fitOf_55 : decode cX12_fitOf 55 = .ok (.aload_n 0, 1) := by decide +kernel
theorem dX12_fitOf_56 : decode cX12_fitOf 56 = .ok (.getfield 68, 3) := by decide +kernel
theorem dX12_fitOf_59 : decode cX12_fitOf 59 = .ok (.invokevirtual 382, 3) := by decide +kernel
theorem dX12_fitOf_62 : decode cX12_fitOf 62 = .ok (.ireturn, 1) := by decide +kernel
theorem dX12_fit_0 : decode cX12_fit 0 = .ok (.aload_n 0, 1) := by decide +kernel
theorem dX12_fit_1 : decode cX12_fit 1 = .ok (.getfield 306, 3) := by decide +kernel
theorem dX12_fit_4 : decode cX12_fit 4 = .ok (.ifCond .le 35, 3) := by decide +kernel
theorem dX12_fit_7 : decode cX12_fit 7 = .ok (.aload_n 0, 1) := by decide +kernel
theorem dX12_fit_8 : decode cX12_fit 8 = .ok (.iload_n 1, 1) := by decide +kernel
theorem dX12_fit_9 : decode cX12_fit 9 = .ok (.iload_n 2, 1) := by decide +kernel
theorem dX12_fit_10 : decode cX12_fit 10 = .ok (.invokevirtual 422, 3) := by decide +kernel
theorem dX12_fit_13 : decode cX12_fit 13 = .ok (.ifCond .eq 26, 3) := by decide +kernel
theorem dX12_fit_16 : decode cX12_fit 16 = .ok (.iload_n 3, 1) := by decide +kernel
theorem dX12_fit_17 : decode cX12_fit 17 = .ok (.iconst 0, 1) := by decide +kernel
theorem dX12_fit_18 : decode cX12_fit 18 = .ok (.iconst 1, 1) := by decide +kernel
theorem dX12_fit_19 : decode cX12_fit 19 = .ok (.invokestatic 269, 3) := by decide +kernel
theorem dX12_fit_22 : decode cX12_fit 22 = .ok (.ifCond .eq 17, 3) := by decide +kernel
theorem dX12_fit_25 : decode cX12_fit 25 = .ok (.aload_n 0, 1) := by decide +kernel
theorem dX12_fit_26 : decode cX12_fit 26 = .ok (.aload_n 0, 1) := by decide +kernel
theorem dX12_fit_27 : decode cX12_fit 27 = .ok (.iload_n 1, 1) := by decide +kernel
theorem dX12_fit_28 : decode cX12_fit 28 = .ok (.iload_n 2, 1) := by decide +kernel
theorem dX12_fit_29 : decode cX12_fit 29 = .ok (.invokevirtual 425, 3) := by decide +kernel
theorem dX12_fit_32 : decode cX12_fit 32 = .ok (.iload_n 3, 1) := by decide +kernel
theorem dX12_fit_33 : decode cX12_fit 33 = .ok (.invokevirtual 386, 3) := by decide +kernel
theorem dX12_fit_36 : decode cX12_fit 36 = .ok (.goto 4, 3) := by decide +kernel
theorem dX12_fit_39 : decode cX12_fit 39 = .ok (.iconst (-1), 1) := by decide +kernel
theorem dX12_fit_40 : decode cX12_fit 40 = .ok (.ireturn, 1) := by decide +kernel
theorem dX12_layPairs_0 : decode cX12_layPairs 0 = .ok (.iconst 0, 1) := by decide +kernel
theorem dX12_layPairs_1 : decode cX12_layPairs 1 = .ok (.istore_n 1, 1) := by decide +kernel
theorem dX12_layPairs_2 : decode cX12_layPairs 2 = .ok (.iconst 0, 1) := by decide +kernel
theorem dX12_layPairs_3 : decode cX12_layPairs 3 = .ok (.istore_n 2, 1) := by decide +kernel
theorem dX12_layPairs_4 : decode cX12_layPairs 4 = .ok (.iload_n 2, 1) := by decide +kernel
theorem dX12_layPairs_5 : decode cX12_layPairs 5 = .ok (.iconst 4, 1) := by decide +kernel
theorem dX12_layPairs_6 : decode cX12_layPairs 6 = .ok (.if_icmp .ge 16, 3) := by decide +kernel
theorem dX12_layPairs_9 : decode cX12_layPairs 9 = .ok (.aload_n 0, 1) := by decide +kernel
theorem dX12_layPairs_10 : decode cX12_layPairs 10 = .ok (.getfield 87, 3) := by decide +kernel
theorem dX12_layPairs_13 : decode cX12_layPairs 13 = .ok (.iload_n 2, 1) := by decide +kernel
theorem dX12_layPairs_14 : decode cX12_layPairs 14 = .ok (.iconst (-1), 1) := by decide +kernel
theorem dX12_layPairs_15 : decode cX12_layPairs 15 = .ok (.iastore, 1) := by decide +kernel
theorem dX12_layPairs_16 : decode cX12_layPairs 16 = .ok (.iinc 2 1, 3) := by decide +kernel
theorem dX12_layPairs_19 : decode cX12_layPairs 19 = .ok (.goto (-15), 3) := by decide +kernel
theorem dX12_layPairs_22 : decode cX12_layPairs 22 = .ok (.iconst 1, 1) := by decide +kernel
theorem dX12_layPairs_23 : decode cX12_layPairs 23 = .ok (.istore_n 2, 1) := by decide +kernel
theorem dX12_layPairs_24 : decode cX12_layPairs 24 = .ok (.iload_n 2, 1) := by decide +kernel
theorem dX12_layPairs_25 : decode cX12_layPairs 25 = .ok (.ifCond .eq 142, 3) := by decide +kernel
theorem dX12_layPairs_28 : decode cX12_layPairs 28 = .ok (.iconst (-1), 1) := by decide +kernel
theorem dX12_layPairs_29 : decode cX12_layPairs 29 = .ok (.istore_n 3, 1) := by decide +kernel
theorem dX12_layPairs_30 : decode cX12_layPairs 30 = .ok (.iconst 0, 1) := by decide +kernel
theorem dX12_layPairs_31 : decode cX12_layPairs 31 = .ok (.istore 4, 2) := by decide +kernel
theorem dX12_layPairs_33 : decode cX12_layPairs 33 = .ok (.iconst 0, 1) := by decide +kernel
theorem dX12_layPairs_34 : decode cX12_layPairs 34 = .ok (.istore 5, 2) := by decide +kernel
theorem dX12_layPairs_36 : decode cX12_layPairs 36 = .ok (.iload 5, 2) := by decide +kernel
theorem dX12_layPairs_38 : decode cX12_layPairs 38 = .ok (.iconst 4, 1) := by decide +kernel
theorem dX12_layPairs_39 : decode cX12_layPairs 39 = .ok (.if_icmp .ge 91, 3) := by decide +kernel
theorem dX12_layPairs_42 : decode cX12_layPairs 42 = .ok (.iconst 0, 1) := by decide +kernel
theorem dX12_layPairs_43 : decode cX12_layPairs 43 = .ok (.istore 6, 2) := by decide +kernel
theorem dX12_layPairs_45 : decode cX12_layPairs 45 = .ok (.iload 6, 2) := by decide +kernel
theorem dX12_layPairs_47 : decode cX12_layPairs 47 = .ok (.iconst 4, 1) := by decide +kernel
theorem dX12_layPairs_48 : decode cX12_layPairs 48 = .ok (.if_icmp .ge 76, 3) := by decide +kernel
theorem dX12_layPairs_51 : decode cX12_layPairs 51 = .ok (.aload_n 0, 1) := by decide +kernel
theorem dX12_layPairs_52 : decode cX12_layPairs 52 = .ok (.iload 5, 2) := by decide +kernel
theorem dX12_layPairs_54 : decode cX12_layPairs 54 = .ok (.iload 6, 2) := by decide +kernel
theorem dX12_layPairs_56 : decode cX12_layPairs 56 = .ok (.invokevirtual 422, 3) := by decide +kernel
theorem dX12_layPairs_59 : decode cX12_layPairs 59 = .ok (.ifCond .eq 59, 3) := by decide +kernel
theorem dX12_layPairs_62 : decode cX12_layPairs 62 = .ok (.aload_n 0, 1) := by decide +kernel
theorem dX12_layPairs_63 : decode cX12_layPairs 63 = .ok (.getfield 87, 3) := by decide +kernel
theorem dX12_layPairs_66 : decode cX12_layPairs 66 = .ok (.iload 5, 2) := by decide +kernel
theorem dX12_layPairs_68 : decode cX12_layPairs 68 = .ok (.iaload, 1) := by decide +kernel
theorem dX12_layPairs_69 : decode cX12_layPairs 69 = .ok (.iconst (-1), 1) := by decide +kernel
theorem dX12_layPairs_70 : decode cX12_layPairs 70 = .ok (.if_icmp .ne 48, 3) := by decide +kernel
theorem dX12_layPairs_73 : decode cX12_layPairs 73 = .ok (.iload_n 1, 1) := by decide +kernel
theorem dX12_layPairs_74 : decode cX12_layPairs 74 = .ok (.iload 6, 2) := by decide +kernel
theorem dX12_layPairs_76 : decode cX12_layPairs 76 = .ok (.invokestatic 280, 3) := by decide +kernel
theorem dX12_layPairs_79 : decode cX12_layPairs 79 = .ok (.ifCond .ne 39, 3) := by decide +kernel
theorem dX12_layPairs_82 : decode cX12_layPairs 82 = .ok (.iload_n 3, 1) := by decide +kernel
theorem dX12_layPairs_83 : decode cX12_layPairs 83 = .ok (.iconst (-1), 1) := by decide +kernel
theorem dX12_layPairs_84 : decode cX12_layPairs 84 = .ok (.if_icmp .eq 16, 3) := by decide +kernel
theorem dX12_layPairs_87 : decode cX12_layPairs 87 = .ok (.aload_n 0, 1) := by decide +kernel
theorem dX12_layPairs_88 : decode cX12_layPairs 88 = .ok (.iload 5, 2) := by decide +kernel
theorem dX12_layPairs_90 : decode cX12_layPairs 90 = .ok (.iload 6, 2) := by decide +kernel
theorem dX12_layPairs_92 : decode cX12_layPairs 92 = .ok (.invokevirtual 425, 3) := by decide +kernel
theorem dX12_layPairs_95 : decode cX12_layPairs 95 = .ok (.iload 4, 2) := by decide +kernel
theorem dX12_layPairs_97 : decode cX12_layPairs 97 = .ok (.if_icmp .le 21, 3) := by decide +kernel
theorem dX12_layPairs_100 : decode cX12_layPairs 100 = .ok (.iconst 4, 1) := by decide +kernel
theorem dX12_layPairs_101 : decode cX12_layPairs 101 = .ok (.iload 5, 2) := by decide +kernel
theorem dX12_layPairs_103 : decode cX12_layPairs 103 = .ok (.imul, 1) := by decide +kernel
theorem dX12_layPairs_104 : decode cX12_layPairs 104 = .ok (.iload 6, 2) := by decide +kernel
theorem dX12_layPairs_106 : decode cX12_layPairs 106 = .ok (.iadd, 1) := by decide +kernel
theorem dX12_layPairs_107 : decode cX12_layPairs 107 = .ok (.istore_n 3, 1) := by decide +kernel
theorem dX12_layPairs_108 : decode cX12_layPairs 108 = .ok (.aload_n 0, 1) := by decide +kernel
theorem dX12_layPairs_109 : decode cX12_layPairs 109 = .ok (.iload 5, 2) := by decide +kernel
theorem dX12_layPairs_111 : decode cX12_layPairs 111 = .ok (.iload 6, 2) := by decide +kernel
theorem dX12_layPairs_113 : decode cX12_layPairs 113 = .ok (.invokevirtual 425, 3) := by decide +kernel
theorem dX12_layPairs_116 : decode cX12_layPairs 116 = .ok (.istore 4, 2) := by decide +kernel
theorem dX12_layPairs_118 : decode cX12_layPairs 118 = .ok (.iinc 6 1, 3) := by decide +kernel
theorem dX12_layPairs_121 : decode cX12_layPairs 121 = .ok (.goto (-76), 3) := by decide +kernel
theorem dX12_layPairs_124 : decode cX12_layPairs 124 = .ok (.iinc 5 1, 3) := by decide +kernel
theorem dX12_layPairs_127 : decode cX12_layPairs 127 = .ok (.goto (-91), 3) := by decide +kernel
theorem dX12_layPairs_130 : decode cX12_layPairs 130 = .ok (.iload_n 3, 1) := by decide +kernel
theorem dX12_layPairs_131 : decode cX12_layPairs 131 = .ok (.iconst (-1), 1) := by decide +kernel
theorem dX12_layPairs_132 : decode cX12_layPairs 132 = .ok (.if_icmp .eq 7, 3) := by decide +kernel
theorem dX12_layPairs_135 : decode cX12_layPairs 135 = .ok (.iconst 1, 1) := by decide +kernel
theorem dX12_layPairs_136 : decode cX12_layPairs 136 = .ok (.goto 4, 3) := by decide +kernel
theorem dX12_layPairs_139 : decode cX12_layPairs 139 = .ok (.iconst 0, 1) := by decide +kernel
theorem dX12_layPairs_140 : decode cX12_layPairs 140 = .ok (.istore_n 2, 1) := by decide +kernel
theorem dX12_layPairs_141 : decode cX12_layPairs 141 = .ok (.iload_n 2, 1) := by decide +kernel
theorem dX12_layPairs_142 : decode cX12_layPairs 142 = .ok (.ifCond .eq 22, 3) := by decide +kernel
theorem dX12_layPairs_145 : decode cX12_layPairs 145 = .ok (.aload_n 0, 1) := by decide +kernel
theorem dX12_layPairs_146 : decode cX12_layPairs 146 = .ok (.getfield 87, 3) := by decide +kernel
theorem dX12_layPairs_149 : decode cX12_layPairs 149 = .ok (.iload_n 3, 1) := by decide +kernel
theorem dX12_layPairs_150 : decode cX12_layPairs 150 = .ok (.iconst 4, 1) := by decide +kernel
theorem dX12_layPairs_151 : decode cX12_layPairs 151 = .ok (.idiv, 1) := by decide +kernel
theorem dX12_layPairs_152 : decode cX12_layPairs 152 = .ok (.iload_n 3, 1) := by decide +kernel
theorem dX12_layPairs_153 : decode cX12_layPairs 153 = .ok (.iconst 4, 1) := by decide +kernel
theorem dX12_layPairs_154 : decode cX12_layPairs 154 = .ok (.irem, 1) := by decide +kernel
theorem dX12_layPairs_155 : decode cX12_layPairs 155 = .ok (.iastore, 1) := by decide +kernel
theorem dX12_layPairs_156 : decode cX12_layPairs 156 = .ok (.iload_n 1, 1) := by decide +kernel
theorem dX12_layPairs_157 : decode cX12_layPairs 157 = .ok (.iconst 1, 1) := by decide +kernel
theorem dX12_layPairs_158 : decode cX12_layPairs 158 = .ok (.iload_n 3, 1) := by decide +kernel
theorem dX12_layPairs_159 : decode cX12_layPairs 159 = .ok (.iconst 4, 1) := by decide +kernel
theorem dX12_layPairs_160 : decode cX12_layPairs 160 = .ok (.irem, 1) := by decide +kernel
theorem dX12_layPairs_161 : decode cX12_layPairs 161 = .ok (.ishl, 1) := by decide +kernel
theorem dX12_layPairs_162 : decode cX12_layPairs 162 = .ok (.ior, 1) := by decide +kernel
theorem dX12_layPairs_163 : decode cX12_layPairs 163 = .ok (.istore_n 1, 1) := by decide +kernel
theorem dX12_layPairs_164 : decode cX12_layPairs 164 = .ok (.goto (-140), 3) := by decide +kernel
theorem dX12_layPairs_167 : decode cX12_layPairs 167 = .ok (.return_, 1) := by decide +kernel
theorem dX12_pair_0 : decode cX12_pair 0 = .ok (.aload_n 0, 1) := by decide +kernel
theorem dX12_pair_1 : decode cX12_pair 1 = .ok (.getfield 306, 3) := by decide +kernel
theorem dX12_pair_4 : decode cX12_pair 4 = .ok (.ifCond .eq 12, 3) := by decide +kernel
theorem dX12_pair_7 : decode cX12_pair 7 = .ok (.iload_n 1, 1) := by decide +kernel
theorem dX12_pair_8 : decode cX12_pair 8 = .ok (.iconst 0, 1) := by decide +kernel
theorem dX12_pair_9 : decode cX12_pair 9 = .ok (.iconst 3, 1) := by decide +kernel
theorem dX12_pair_10 : decode cX12_pair 10 = .ok (.invokestatic 269, 3) := by decide +kernel
theorem dX12_pair_13 : decode cX12_pair 13 = .ok (.ifCond .ne 5, 3) := by decide +kernel
theorem dX12_pair_16 : decode cX12_pair 16 = .ok (.iconst (-1), 1) := by decide +kernel
theorem dX12_pair_17 : decode cX12_pair 17 = .ok (.ireturn, 1) := by decide +kernel
theorem dX12_pair_18 : decode cX12_pair 18 = .ok (.aload_n 0, 1) := by decide +kernel
theorem dX12_pair_19 : decode cX12_pair 19 = .ok (.invokevirtual 428, 3) := by decide +kernel
theorem dX12_pair_22 : decode cX12_pair 22 = .ok (.aload_n 0, 1) := by decide +kernel
theorem dX12_pair_23 : decode cX12_pair 23 = .ok (.getfield 87, 3) := by decide +kernel
theorem dX12_pair_26 : decode cX12_pair 26 = .ok (.iload_n 1, 1) := by decide +kernel
theorem dX12_pair_27 : decode cX12_pair 27 = .ok (.iaload, 1) := by decide +kernel
theorem dX12_pair_28 : decode cX12_pair 28 = .ok (.ireturn, 1) := by decide +kernel
theorem dX12_known_0 : decode cX12_known 0 = .ok (.iload_n 0, 1) := by decide +kernel
theorem dX12_known_1 : decode cX12_known 1 = .ok (.ifCond .ne 7, 3) := by decide +kernel
theorem dX12_known_4 : decode cX12_known 4 = .ok (.iload_n 1, 1) := by decide +kernel
theorem dX12_known_5 : decode cX12_known 5 = .ok (.goto 17, 3) := by decide +kernel
theorem dX12_known_8 : decode cX12_known 8 = .ok (.iload_n 0, 1) := by decide +kernel
theorem dX12_known_9 : decode cX12_known 9 = .ok (.iconst 1, 1) := by decide +kernel
theorem dX12_known_10 : decode cX12_known 10 = .ok (.if_icmp .ne 7, 3) := by decide +kernel
theorem dX12_known_13 : decode cX12_known 13 = .ok (.iload_n 2, 1) := by decide +kernel
theorem dX12_known_14 : decode cX12_known 14 = .ok (.goto 8, 3) := by decide +kernel
theorem dX12_known_17 : decode cX12_known 17 = .ok (.iconst 4, 1) := by decide +kernel
theorem dX12_known_18 : decode cX12_known 18 = .ok (.iload_n 1, 1) := by decide +kernel
theorem dX12_known_19 : decode cX12_known 19 = .ok (.imul, 1) := by decide +kernel
theorem dX12_known_20 : decode cX12_known 20 = .ok (.iload_n 2, 1) := by decide +kernel
theorem dX12_known_21 : decode cX12_known 21 = .ok (.iadd, 1) := by decide +kernel
theorem dX12_known_22 : decode cX12_known 22 = .ok (.ireturn, 1) := by decide +kernel
theorem dX12_layLone_0 : decode cX12_layLone 0 = .ok (.iconst 0, 1) := by decide +kernel
theorem dX12_layLone_1 : decode cX12_layLone 1 = .ok (.istore_n 2, 1) := by decide +kernel
theorem dX12_layLone_2 : decode cX12_layLone 2 = .ok (.iload_n 2, 1) := by decide +kernel
theorem dX12_layLone_3 : decode cX12_layLone 3 = .ok (.bipush 96, 2) := by decide +kernel
theorem dX12_layLone_5 : decode cX12_layLone 5 = .ok (.if_icmp .ge 16, 3) := by decide +kernel
theorem dX12_layLone_8 : decode cX12_layLone 8 = .ok (.aload_n 0, 1) := by decide +kernel
theorem dX12_layLone_9 : decode cX12_layLone 9 = .ok (.getfield 90, 3) := by decide +kernel
theorem dX12_layLone_12 : decode cX12_layLone 12 = .ok (.iload_n 2, 1) := by decide +kernel
theorem dX12_layLone_13 : decode cX12_layLone 13 = .ok (.iconst 0, 1) := by decide +kernel
theorem dX12_layLone_14 : decode cX12_layLone 14 = .ok (.iastore, 1) := by decide +kernel
theorem dX12_layLone_15 : decode cX12_layLone 15 = .ok (.iinc 2 1, 3) := by decide +kernel
theorem dX12_layLone_18 : decode cX12_layLone 18 = .ok (.goto (-16), 3) := by decide +kernel
theorem dX12_layLone_21 : decode cX12_layLone 21 = .ok (.iconst 0, 1) := by decide +kernel
theorem dX12_layLone_22 : decode cX12_layLone 22 = .ok (.istore_n 2, 1) := by decide +kernel
theorem dX12_layLone_23 : decode cX12_layLone 23 = .ok (.iload_n 2, 1) := by decide +kernel
theorem dX12_layLone_24 : decode cX12_layLone 24 = .ok (.aload_n 0, 1) := by decide +kernel
theorem dX12_layLone_25 : decode cX12_layLone 25 = .ok (.getfield 306, 3) := by decide +kernel
theorem dX12_layLone_28 : decode cX12_layLone 28 = .ok (.if_icmp .ge 48, 3) := by decide +kernel
theorem dX12_layLone_31 : decode cX12_layLone 31 = .ok (.aload_n 0, 1) := by decide +kernel
theorem dX12_layLone_32 : decode cX12_layLone 32 = .ok (.getfield 90, 3) := by decide +kernel
theorem dX12_layLone_35 : decode cX12_layLone 35 = .ok (.bipush 6, 2) := by decide +kernel
theorem dX12_layLone_37 : decode cX12_layLone 37 = .ok (.iload_n 1, 1) := by decide +kernel
theorem dX12_layLone_38 : decode cX12_layLone 38 = .ok (.aload_n 0, 1) := by decide +kernel
theorem dX12_layLone_39 : decode cX12_layLone 39 = .ok (.iload_n 2, 1) := by decide +kernel
theorem dX12_layLone_40 : decode cX12_layLone 40 = .ok (.invokevirtual 366, 3) := by decide +kernel
theorem dX12_layLone_43 : decode cX12_layLone 43 = .ok (.aload_n 0, 1) := by decide +kernel
theorem dX12_layLone_44 : decode cX12_layLone 44 = .ok (.iload_n 2, 1) := by decide +kernel
theorem dX12_layLone_45 : decode cX12_layLone 45 = .ok (.invokevirtual 369, 3) := by decide +kernel
theorem dX12_layLone_48 : decode cX12_layLone 48 = .ok (.invokestatic 431, 3) := by decide +kernel
theorem dX12_layLone_51 : decode cX12_layLone 51 = .ok (.imul, 1) := by decide +kernel
theorem dX12_layLone_52 : decode cX12_layLone 52 = .ok (.iload_n 2, 1) := by decide +kernel
theorem dX12_layLone_53 : decode cX12_layLone 53 = .ok (.iadd, 1) := by decide +kernel
theorem dX12_layLone_54 : decode cX12_layLone 54 = .ok (.dup2, 1) := by decide +kernel
theorem dX12_layLone_55 : decode cX12_layLone 55 = .ok (.iaload, 1) := by decide +kernel
theorem dX12_layLone_56 : decode cX12_layLone 56 = .ok (.aload_n 0, 1) := by decide +kernel
theorem dX12_layLone_57 : decode cX12_layLone 57 = .ok (.iload_n 2, 1) := by decide +kernel
theorem dX12_layLone_58 : decode cX12_layLone 58 = .ok (.iconst 0, 1) := by decide +kernel
theorem dX12_layLone_59 : decode cX12_layLone 59 = .ok (.invokevirtual 343, 3) := by decide +kernel
theorem dX12_layLone_62 : decode cX12_layLone 62 = .ok (.aload_n 0, 1) := by decide +kernel
theorem dX12_layLone_63 : decode cX12_layLone 63 = .ok (.iload_n 2, 1) := by decide +kernel
theorem dX12_layLone_64 : decode cX12_layLone 64 = .ok (.invokevirtual 356, 3) := by decide +kernel
theorem dX12_layLone_67 : decode cX12_layLone 67 = .ok (.imul, 1) := by decide +kernel
theorem dX12_layLone_68 : decode cX12_layLone 68 = .ok (.iadd, 1) := by decide +kernel
theorem dX12_layLone_69 : decode cX12_layLone 69 = .ok (.iastore, 1) := by decide +kernel
theorem dX12_layLone_70 : decode cX12_layLone 70 = .ok (.iinc 2 1, 3) := by decide +kernel
theorem dX12_layLone_73 : decode cX12_layLone 73 = .ok (.goto (-50), 3) := by decide +kernel
theorem dX12_layLone_76 : decode cX12_layLone 76 = .ok (.return_, 1) := by decide +kernel
theorem dX12_loneBest_0 : decode cX12_loneBest 0 = .ok (.iconst 0, 1) := by decide +kernel
theorem dX12_loneBest_1 : decode cX12_loneBest 1 = .ok (.istore_n 2, 1) := by decide +kernel
theorem dX12_loneBest_2 : decode cX12_loneBest 2 = .ok (.iconst 1, 1) := by decide +kernel
theorem dX12_loneBest_3 : decode cX12_loneBest 3 = .ok (.istore_n 3, 1) := by decide +kernel
theorem dX12_loneBest_4 : decode cX12_loneBest 4 = .ok (.iload_n 3, 1) := by decide +kernel
theorem dX12_loneBest_5 : decode cX12_loneBest 5 = .ok (.aload_n 0, 1) := by decide +kernel
theorem dX12_loneBest_6 : decode cX12_loneBest 6 = .ok (.getfield 306, 3) := by decide +kernel
theorem dX12_loneBest_9 : decode cX12_loneBest 9 = .ok (.if_icmp .ge 40, 3) := by decide +kernel
theorem dX12_loneBest_12 : decode cX12_loneBest 12 = .ok (.aload_n 0, 1) := by decide +kernel
theorem dX12_loneBest_13 : decode cX12_loneBest 13 = .ok (.getfield 90, 3) := by decide +kernel
theorem dX12_loneBest_16 : decode cX12_loneBest 16 = .ok (.bipush 6, 2) := by decide +kernel
theorem dX12_loneBest_18 : decode cX12_loneBest 18 = .ok (.iload_n 1, 1) := by decide +kernel
theorem dX12_loneBest_19 : decode cX12_loneBest 19 = .ok (.imul, 1) := by decide +kernel
theorem dX12_loneBest_20 : decode cX12_loneBest 20 = .ok (.iload_n 3, 1) := by decide +kernel
theorem dX12_loneBest_21 : decode cX12_loneBest 21 = .ok (.iadd, 1) := by decide +kernel
theorem dX12_loneBest_22 : decode cX12_loneBest 22 = .ok (.iaload, 1) := by decide +kernel
theorem dX12_loneBest_23 : decode cX12_loneBest 23 = .ok (.aload_n 0, 1) := by decide +kernel
theorem dX12_loneBest_24 : decode cX12_loneBest 24 = .ok (.getfield 90, 3) := by decide +kernel
theorem dX12_loneBest_27 : decode cX12_loneBest 27 = .ok (.bipush 6, 2) := by decide +kernel
theorem dX12_loneBest_29 : decode cX12_loneBest 29 = .ok (.iload_n 1, 1) := by decide +kernel
theorem dX12_loneBest_30 : decode cX12_loneBest 30 = .ok (.imul, 1) := by decide +kernel
theorem dX12_loneBest_31 : decode cX12_loneBest 31 = .ok (.iload_n 2, 1) := by decide +kernel
theorem dX12_loneBest_32 : decode cX12_loneBest 32 = .ok (.iadd, 1) := by decide +kernel
theorem dX12_loneBest_33 : decode cX12_loneBest 33 = .ok (.iaload, 1) := by decide +kernel
theorem dX12_loneBest_34 : decode cX12_loneBest 34 = .ok (.if_icmp .le 7, 3) := by decide +kernel
theorem dX12_loneBest_37 : decode cX12_loneBest 37 = .ok (.iload_n 3, 1) := by decide +kernel
theorem dX12_loneBest_38 : decode cX12_loneBest 38 = .ok (.goto 4, 3) := by decide +kernel
theorem dX12_loneBest_41 : decode cX12_loneBest 41 = .ok (.iload_n 2, 1) := by decide +kernel
theorem dX12_loneBest_42 : decode cX12_loneBest 42 = .ok (.istore_n 2, 1) := by decide +kernel
theorem dX12_loneBest_43 : decode cX12_loneBest 43 = .ok (.iinc 3 1, 3) := by decide +kernel
theorem dX12_loneBest_46 : decode cX12_loneBest 46 = .ok (.goto (-42), 3) := by decide +kernel
theorem dX12_loneBest_49 : decode cX12_loneBest 49 = .ok (.iload_n 2, 1) := by decide +kernel
theorem dX12_loneBest_50 : decode cX12_loneBest 50 = .ok (.ireturn, 1) := by decide +kernel
theorem dX12_lone_0 : decode cX12_lone 0 = .ok (.aload_n 0, 1) := by decide +kernel
theorem dX12_lone_1 : decode cX12_lone 1 = .ok (.getfield 306, 3) := by decide +kernel
theorem dX12_lone_4 : decode cX12_lone 4 = .ok (.ifCond .eq 21, 3) := by decide +kernel
theorem dX12_lone_7 : decode cX12_lone 7 = .ok (.iload_n 1, 1) := by decide +kernel
theorem dX12_lone_8 : decode cX12_lone 8 = .ok (.iconst 0, 1) := by decide +kernel
theorem dX12_lone_9 : decode cX12_lone 9 = .ok (.iconst 2, 1) := by decide +kernel
theorem dX12_lone_10 : decode cX12_lone 10 = .ok (.invokestatic 269, 3) := by decide +kernel
theorem dX12_lone_13 : decode cX12_lone 13 = .ok (.ifCond .eq 12, 3) := by decide +kernel
theorem dX12_lone_16 : decode cX12_lone 16 = .ok (.iload_n 2, 1) := by decide +kernel
theorem dX12_lone_17 : decode cX12_lone 17 = .ok (.iconst 0, 1) := by decide +kernel
theorem dX12_lone_18 : decode cX12_lone 18 = .ok (.iconst 1, 1) := by decide +kernel
theorem dX12_lone_19 : decode cX12_lone 19 = .ok (.invokestatic 269, 3) := by decide +kernel
theorem dX12_lone_22 : decode cX12_lone 22 = .ok (.ifCond .ne 5, 3) := by decide +kernel
theorem dX12_lone_25 : decode cX12_lone 25 = .ok (.iconst (-1), 1) := by decide +kernel
theorem dX12_lone_26 : decode cX12_lone 26 = .ok (.ireturn, 1) := by decide +kernel
theorem dX12_lone_27 : decode cX12_lone 27 = .ok (.aload_n 0, 1) := by decide +kernel
theorem dX12_lone_28 : decode cX12_lone 28 = .ok (.iload_n 1, 1) := by decide +kernel
theorem dX12_lone_29 : decode cX12_lone 29 = .ok (.invokevirtual 434, 3) := by decide +kernel
theorem dX12_lone_32 : decode cX12_lone 32 = .ok (.iconst 0, 1) := by decide +kernel
theorem dX12_lone_33 : decode cX12_lone 33 = .ok (.istore_n 3, 1) := by decide +kernel
theorem dX12_lone_34 : decode cX12_lone 34 = .ok (.iconst 0, 1) := by decide +kernel
theorem dX12_lone_35 : decode cX12_lone 35 = .ok (.istore 4, 2) := by decide +kernel
theorem dX12_lone_37 : decode cX12_lone 37 = .ok (.iload 4, 2) := by decide +kernel
theorem dX12_lone_39 : decode cX12_lone 39 = .ok (.bipush 16, 2) := by decide +kernel
theorem dX12_lone_41 : decode cX12_lone 41 = .ok (.if_icmp .ge 29, 3) := by decide +kernel
theorem dX12_lone_44 : decode cX12_lone 44 = .ok (.iload_n 3, 1) := by decide +kernel
theorem dX12_lone_45 : decode cX12_lone 45 = .ok (.aload_n 0, 1) := by decide +kernel
theorem dX12_lone_46 : decode cX12_lone 46 = .ok (.getfield 90, 3) := by decide +kernel
theorem dX12_lone_49 : decode cX12_lone 49 = .ok (.bipush 6, 2) := by decide +kernel
theorem dX12_lone_51 : decode cX12_lone 51 = .ok (.iload 4, 2) := by decide +kernel
theorem dX12_lone_53 : decode cX12_lone 53 = .ok (.imul, 1) := by decide +kernel
theorem dX12_lone_54 : decode cX12_lone 54 = .ok (.aload_n 0, 1) := by decide +kernel
theorem dX12_lone_55 : decode cX12_lone 55 = .ok (.iload 4, 2) := by decide +kernel
theorem dX12_lone_57 : decode cX12_lone 57 = .ok (.invokevirtual 437, 3) := by decide +kernel
theorem dX12_lone_60 : decode cX12_lone 60 = .ok (.iadd, 1) := by decide +kernel
theorem dX12_lone_61 : decode cX12_lone 61 = .ok (.iaload, 1) := by decide +kernel
theorem dX12_lone_62 : decode cX12_lone 62 = .ok (.iadd, 1) := by decide +kernel
theorem dX12_lone_63 : decode cX12_lone 63 = .ok (.istore_n 3, 1) := by decide +kernel
theorem dX12_lone_64 : decode cX12_lone 64 = .ok (.iinc 4 1, 3) := by decide +kernel
theorem dX12_lone_67 : decode cX12_lone 67 = .ok (.goto (-30), 3) := by decide +kernel
theorem dX12_lone_70 : decode cX12_lone 70 = .ok (.aload_n 0, 1) := by decide +kernel
theorem dX12_lone_71 : decode cX12_lone 71 = .ok (.bipush 100, 2) := by decide +kernel
theorem dX12_lone_73 : decode cX12_lone 73 = .ok (.iload_n 3, 1) := by decide +kernel
theorem dX12_lone_74 : decode cX12_lone 74 = .ok (.imul, 1) := by decide +kernel
theorem dX12_lone_75 : decode cX12_lone 75 = .ok (.iload_n 2, 1) := by decide +kernel
theorem dX12_lone_76 : decode cX12_lone 76 = .ok (.invokevirtual 386, 3) := by decide +kernel
theorem dX12_lone_79 : decode cX12_lone 79 = .ok (.ireturn, 1) := by decide +kernel
theorem dX12_alone_0 : decode cX12_alone 0 = .ok (.aload_n 0, 1) := by decide +kernel
theorem dX12_alone_1 : decode cX12_alone 1 = .ok (.getfield 306, 3) := by decide +kernel
theorem dX12_alone_4 : decode cX12_alone 4 = .ok (.ifCond .eq 30, 3) := by decide +kernel
theorem dX12_alone_7 : decode cX12_alone 7 = .ok (.iload_n 1, 1) := by decide +kernel
theorem dX12_alone_8 : decode cX12_alone 8 = .ok (.iconst 0, 1) := by decide +kernel
theorem dX12_alone_9 : decode cX12_alone 9 = .ok (.iconst 2, 1) := by decide +kernel
theorem dX12_alone_10 : decode cX12_alone 10 = .ok (.invokestatic 269, 3) := by decide +kernel
theorem dX12_alone_13 : decode cX12_alone 13 = .ok (.ifCond .eq 21, 3) := by decide +kernel
theorem dX12_alone_16 : decode cX12_alone 16 = .ok (.iload_n 2, 1) := by decide +kernel
theorem dX12_alone_17 : decode cX12_alone 17 = .ok (.iconst 0, 1) := by decide +kernel
theorem dX12_alone_18 : decode cX12_alone 18 = .ok (.iconst 3, 1) := by decide +kernel
theorem dX12_alone_19 : decode cX12_alone 19 = .ok (.invokestatic 269, 3) := by decide +kernel
theorem dX12_alone_22 : decode cX12_alone 22 = .ok (.ifCond .eq 12, 3) := by decide +kernel
theorem dX12_alone_25 : decode cX12_alone 25 = .ok (.iload_n 3, 1) := by decide +kernel
theorem dX12_alone_26 : decode cX12_alone 26 = .ok (.iconst 0, 1) := by decide +kernel
theorem dX12_alone_27 : decode cX12_alone 27 = .ok (.iconst 3, 1) := by decide +kernel
theorem dX12_alone_28 : decode cX12_alone 28 = .ok (.invokestatic 269, 3) := by decide +kernel
theorem dX12_alone_31 : decode cX12_alone 31 = .ok (.ifCond .ne 5, 3) := by decide +kernel
theorem dX12_alone_34 : decode cX12_alone 34 = .ok (.iconst (-1), 1) := by decide +kernel
theorem dX12_alone_35 : decode cX12_alone 35 = .ok (.ireturn, 1) := by decide +kernel
theorem dX12_alone_36 : decode cX12_alone 36 = .ok (.aload_n 0, 1) := by decide +kernel
theorem dX12_alone_37 : decode cX12_alone 37 = .ok (.iload_n 1, 1) := by decide +kernel
theorem dX12_alone_38 : decode cX12_alone 38 = .ok (.invokevirtual 434, 3) := by decide +kernel
theorem dX12_alone_41 : decode cX12_alone 41 = .ok (.aload_n 0, 1) := by decide +kernel
theorem dX12_alone_42 : decode cX12_alone 42 = .ok (.iload_n 1, 1) := by decide +kernel
theorem dX12_alone_43 : decode cX12_alone 43 = .ok (.iload_n 2, 1) := by decide +kernel
theorem dX12_alone_44 : decode cX12_alone 44 = .ok (.iload_n 3, 1) := by decide +kernel
theorem dX12_alone_45 : decode cX12_alone 45 = .ok (.invokestatic 431, 3) := by decide +kernel
theorem dX12_alone_48 : decode cX12_alone 48 = .ok (.invokevirtual 437, 3) := by decide +kernel
theorem dX12_alone_51 : decode cX12_alone 51 = .ok (.ireturn, 1) := by decide +kernel
theorem dX12_comesAs_0 : decode cX12_comesAs 0 = .ok (.lconst 1, 1) := by decide +kernel
theorem dX12_comesAs_1 : decode cX12_comesAs 1 = .ok (.lstore 4, 2) := by decide +kernel
theorem dX12_comesAs_3 : decode cX12_comesAs 3 = .ok (.iconst 0, 1) := by decide +kernel
theorem dX12_comesAs_4 : decode cX12_comesAs 4 = .ok (.istore 6, 2) := by decide +kernel
theorem dX12_comesAs_6 : decode cX12_comesAs 6 = .ok (.iload 6, 2) := by decide +kernel
theorem dX12_comesAs_8 : decode cX12_comesAs 8 = .ok (.iload_n 1, 1) := by decide +kernel
theorem dX12_comesAs_9 : decode cX12_comesAs 9 = .ok (.if_icmp .ge 67, 3) := by decide +kernel
theorem dX12_comesAs_12 : decode cX12_comesAs 12 = .ok (.lload 4, 2) := by decide +kernel
theorem dX12_comesAs_14 : decode cX12_comesAs 14 = .ok (.iload_n 2, 1) := by decide +kernel
theorem dX12_comesAs_15 : decode cX12_comesAs 15 = .ok (.iload 6, 2) := by decide +kernel
theorem dX12_comesAs_17 : decode cX12_comesAs 17 = .ok (.invokestatic 280, 3) := by decide +kernel
theorem dX12_comesAs_20 : decode cX12_comesAs 20 = .ok (.ifCond .eq 31, 3) := by decide +kernel
theorem dX12_comesAs_23 : decode cX12_comesAs 23 = .ok (.iload_n 3, 1) := by decide +kernel
theorem dX12_comesAs_24 : decode cX12_comesAs 24 = .ok (.iload 6, 2) := by decide +kernel
theorem dX12_comesAs_26 : decode cX12_comesAs 26 = .ok (.invokestatic 280, 3) := by decide +kernel
theorem dX12_comesAs_29 : decode cX12_comesAs 29 = .ok (.ifCond .eq 14, 3) := by decide +kernel
theorem dX12_comesAs_32 : decode cX12_comesAs 32 = .ok (.bipush 100, 2) := by decide +kernel
theorem dX12_comesAs_34 : decode cX12_comesAs 34 = .ok (.aload_n 0, 1) := by decide +kernel
theorem dX12_comesAs_35 : decode cX12_comesAs 35 = .ok (.getfield 312, 3) := by decide +kernel
theorem dX12_comesAs_38 : decode cX12_comesAs 38 = .ok (.isub, 1) := by decide +kernel
theorem dX12_comesAs_39 : decode cX12_comesAs 39 = .ok (.i2l, 1) := by decide +kernel
theorem dX12_comesAs_40 : decode cX12_comesAs 40 = .ok (.goto 27, 3) := by decide +kernel
theorem dX12_comesAs_43 : decode cX12_comesAs 43 = .ok (.aload_n 0, 1) := by decide +kernel
theorem dX12_comesAs_44 : decode cX12_comesAs 44 = .ok (.getfield 312, 3) := by decide +kernel
theorem dX12_comesAs_47 : decode cX12_comesAs 47 = .ok (.i2l, 1) := by decide +kernel
theorem dX12_comesAs_48 : decode cX12_comesAs 48 = .ok (.goto 19, 3) := by decide +kernel
theorem dX12_comesAs_51 : decode cX12_comesAs 51 = .ok (.iload_n 3, 1) := by decide +kernel
theorem dX12_comesAs_52 : decode cX12_comesAs 52 = .ok (.iload 6, 2) := by decide +kernel
theorem dX12_comesAs_54 : decode cX12_comesAs 54 = .ok (.invokestatic 280, 3) := by decide +kernel
theorem dX12_comesAs_57 : decode cX12_comesAs 57 = .ok (.ifCond .eq 7, 3) := by decide +kernel
theorem dX12_comesAs_60 : decode cX12_comesAs 60 = .ok (.lconst 0, 1) := by decide +kernel
theorem dX12_comesAs_61 : decode cX12_comesAs 61 = .ok (.goto 6, 3) := by decide +kernel
theorem dX12_comesAs_64 : decode cX12_comesAs 64 = .ok (.ldc2_w 440, 3) := by decide +kernel
theorem dX12_comesAs_67 : decode cX12_comesAs 67 = .ok (.lmul, 1) := by decide +kernel
theorem dX12_comesAs_68 : decode cX12_comesAs 68 = .ok (.lstore 4, 2) := by decide +kernel
theorem dX12_comesAs_70 : decode cX12_comesAs 70 = .ok (.iinc 6 1, 3) := by decide +kernel
theorem dX12_comesAs_73 : decode cX12_comesAs 73 = .ok (.goto (-67), 3) := by decide +kernel
theorem dX12_comesAs_76 : decode cX12_comesAs 76 = .ok (.lload 4, 2) := by decide +kernel
theorem dX12_comesAs_78 : decode cX12_comesAs 78 = .ok (.lreturn, 1) := by decide +kernel
theorem dX12_knotSum_0 : decode cX12_knotSum 0 = .ok (.iconst 0, 1) := by decide +kernel
theorem dX12_knotSum_1 : decode cX12_knotSum 1 = .ok (.istore_n 3, 1) := by decide +kernel
theorem dX12_knotSum_2 : decode cX12_knotSum 2 = .ok (.iload_n 3, 1) := by decide +kernel
theorem dX12_knotSum_3 : decode cX12_knotSum 3 = .ok (.sipush 192, 3) := by decide +kernel
theorem dX12_knotSum_6 : decode cX12_knotSum 6 = .ok (.if_icmp .ge 16, 3) := by decide +kernel
theorem dX12_knotSum_9 : decode cX12_knotSum 9 = .ok (.aload_n 0, 1) := by decide +kernel
theorem dX12_knotSum_10 : decode cX12_knotSum 10 = .ok (.getfield 93, 3) := by decide +kernel
theorem dX12_knotSum_13 : decode cX12_knotSum 13 = .ok (.iload_n 3, 1) := by decide +kernel
theorem dX12_knotSum_14 : decode cX12_knotSum 14 = .ok (.lconst 0, 1) := by decide +kernel
theorem dX12_knotSum_15 : decode cX12_knotSum 15 = .ok (.lastore, 1) := by decide +kernel
theorem dX12_knotSum_16 : decode cX12_knotSum 16 = .ok (.iinc 3 1, 3) := by decide +kernel
theorem dX12_knotSum_19 : decode cX12_knotSum 19 = .ok (.goto (-17), 3) := by decide +kernel
theorem dX12_knotSum_22 : decode cX12_knotSum 22 = .ok (.iconst 0, 1) := by decide +kernel
theorem dX12_knotSum_23 : decode cX12_knotSum 23 = .ok (.istore_n 3, 1) := by decide +kernel
theorem dX12_knotSum_24 : decode cX12_knotSum 24 = .ok (.iload_n 3, 1) := by decide +kernel
theorem dX12_knotSum_25 : decode cX12_knotSum 25 = .ok (.aload_n 0, 1) := by decide +kernel
theorem dX12_knotSum_26 : decode cX12_knotSum 26 = .ok (.getfield 306, 3) := by decide +kernel
theorem dX12_knotSum_29 : decode cX12_knotSum 29 = .ok (.if_icmp .ge 79, 3) := by decide +kernel
theorem dX12_knotSum_32 : decode cX12_knotSum 32 = .ok (.iconst 0, 1) := by decide +kernel
theorem dX12_knotSum_33 : decode cX12_knotSum 33 = .ok (.istore 4, 2) := by decide +kernel
theorem dX12_knotSum_35 : decode cX12_knotSum 35 = .ok (.iload 4, 2) := by decide +kernel
theorem dX12_knotSum_37 : decode cX12_knotSum 37 = .ok (.iconst 1, 1) := by decide +kernel
theorem dX12_knotSum_38 : decode cX12_knotSum 38 = .ok (.iload_n 1, 1) := by decide +kernel
theorem dX12_knotSum_39 : decode cX12_knotSum 39 = .ok (.ishl, 1) := by decide +kernel
theorem dX12_knotSum_40 : decode cX12_knotSum 40 = .ok (.if_icmp .ge 62, 3) := by decide +kernel
theorem dX12_knotSum_43 : decode cX12_knotSum 43 = .ok (.aload_n 0, 1) := by decide +kernel
theorem dX12_knotSum_44 : decode cX12_knotSum 44 = .ok (.getfield 93, 3) := by decide +kernel
theorem dX12_knotSum_47 : decode cX12_knotSum 47 = .ok (.bipush 6, 2) := by decide +kernel
theorem dX12_knotSum_49 : decode cX12_knotSum 49 = .ok (.bipush 8, 2) := by decide +kernel
theorem dX12_knotSum_51 : decode cX12_knotSum 51 = .ok (.aload_n 0, 1) := by decide +kernel
theorem dX12_knotSum_52 : decode cX12_knotSum 52 = .ok (.iload_n 3, 1) := by decide +kernel
theorem dX12_knotSum_53 : decode cX12_knotSum 53 = .ok (.invokevirtual 369, 3) := by decide +kernel
theorem dX12_knotSum_56 : decode cX12_knotSum 56 = .ok (.imul, 1) := by decide +kernel
theorem dX12_knotSum_57 : decode cX12_knotSum 57 = .ok (.iload 4, 2) := by decide +kernel
theorem dX12_knotSum_59 : decode cX12_knotSum 59 = .ok (.iadd, 1) := by decide +kernel
theorem dX12_knotSum_60 : decode cX12_knotSum 60 = .ok (.imul, 1) := by decide +kernel
theorem dX12_knotSum_61 : decode cX12_knotSum 61 = .ok (.iload_n 3, 1) := by decide +kernel
theorem dX12_knotSum_62 : decode cX12_knotSum 62 = .ok (.iadd, 1) := by decide +kernel
theorem dX12_knotSum_63 : decode cX12_knotSum 63 = .ok (.dup2, 1) := by decide +kernel
theorem dX12_knotSum_64 : decode cX12_knotSum 64 = .ok (.laload, 1) := by decide +kernel
theorem dX12_knotSum_65 : decode cX12_knotSum 65 = .ok (.aload_n 0, 1) := by decide +kernel
theorem dX12_knotSum_66 : decode cX12_knotSum 66 = .ok (.iload_n 1, 1) := by decide +kernel
theorem dX12_knotSum_67 : decode cX12_knotSum 67 = .ok (.aload_n 2, 1) := by decide +kernel
theorem dX12_knotSum_68 : decode cX12_knotSum 68 = .ok (.aload_n 0, 1) := by decide +kernel
theorem dX12_knotSum_69 : decode cX12_knotSum 69 = .ok (.iload_n 3, 1) := by decide +kernel
theorem dX12_knotSum_70 : decode cX12_knotSum 70 = .ok (.invokevirtual 366, 3) := by decide +kernel
theorem dX12_knotSum_73 : decode cX12_knotSum 73 = .ok (.iaload, 1) := by decide +kernel
theorem dX12_knotSum_74 : decode cX12_knotSum 74 = .ok (.iload 4, 2) := by decide +kernel
theorem dX12_knotSum_76 : decode cX12_knotSum 76 = .ok (.invokevirtual 442, 3) := by decide +kernel
theorem dX12_knotSum_79 : decode cX12_knotSum 79 = .ok (.aload_n 0, 1) := by decide +kernel
theorem dX12_knotSum_80 : decode cX12_knotSum 80 = .ok (.iload_n 3, 1) := by decide +kernel
theorem dX12_knotSum_81 : decode cX12_knotSum 81 = .ok (.iconst 0, 1) := by decide +kernel
theorem dX12_knotSum_82 : decode cX12_knotSum 82 = .ok (.invokevirtual 343, 3) := by decide +kernel
theorem dX12_knotSum_85 : decode cX12_knotSum 85 = .ok (.i2l, 1) := by decide +kernel
theorem dX12_knotSum_86 : decode cX12_knotSum 86 = .ok (.lmul, 1) := by decide +kernel
theorem dX12_knotSum_87 : decode cX12_knotSum 87 = .ok (.aload_n 0, 1) := by decide +kernel
theorem dX12_knotSum_88 : decode cX12_knotSum 88 = .ok (.iload_n 3, 1) := by decide +kernel
theorem dX12_knotSum_89 : decode cX12_knotSum 89 = .ok (.invokevirtual 356, 3) := by decide +kernel
theorem dX12_knotSum_92 : decode cX12_knotSum 92 = .ok (.i2l, 1) := by decide +kernel
theorem dX12_knotSum_93 : decode cX12_knotSum 93 = .ok (.lmul, 1) := by decide +kernel
theorem dX12_knotSum_94 : decode cX12_knotSum 94 = .ok (.ladd, 1) := by decide +kernel
theorem dX12_knotSum_95 : decode cX12_knotSum 95 = .ok (.lastore, 1) := by decide +kernel
theorem dX12_knotSum_96 : decode cX12_knotSum 96 = .ok (.iinc 4 1, 3) := by decide +kernel
theorem dX12_knotSum_99 : decode cX12_knotSum 99 = .ok (.goto (-64), 3) := by decide +kernel
theorem dX12_knotSum_102 : decode cX12_knotSum 102 = .ok (.iinc 3 1, 3) := by decide +kernel
theorem dX12_knotSum_105 : decode cX12_knotSum 105 = .ok (.goto (-81), 3) := by decide +kernel
theorem dX12_knotSum_108 : decode cX12_knotSum 108 = .ok (.lconst 0, 1) := by decide +kernel
theorem dX12_knotSum_109 : decode cX12_knotSum 109 = .ok (.lstore_n 3, 1) := by decide +kernel
theorem dX12_knotSum_110 : decode cX12_knotSum 110 = .ok (.iconst 0, 1) := by decide +kernel
theorem dX12_knotSum_111 : decode cX12_knotSum 111 = .ok (.istore 5, 2) := by decide +kernel
theorem dX12_knotSum_113 : decode cX12_knotSum 113 = .ok (.iload 5, 2) := by decide +kernel
theorem dX12_knotSum_115 : decode cX12_knotSum 115 = .ok (.bipush 32, 2) := by decide +kernel
theorem dX12_knotSum_117 : decode cX12_knotSum 117 = .ok (.if_icmp .ge 55, 3) := by decide +kernel
theorem dX12_knotSum_120 : decode cX12_knotSum 120 = .ok (.lconst 0, 1) := by decide +kernel
theorem dX12_knotSum_121 : decode cX12_knotSum 121 = .ok (.lstore 6, 2) := by decide +kernel
theorem dX12_knotSum_123 : decode cX12_knotSum 123 = .ok (.iconst 0, 1) := by decide +kernel
theorem dX12_knotSum_124 : decode cX12_knotSum 124 = .ok (.istore 8, 2) := by decide +kernel
theorem dX12_knotSum_126 : decode cX12_knotSum 126 = .ok (.iload 8, 2) := by decide +kernel
theorem dX12_knotSum_128 : decode cX12_knotSum 128 = .ok (.aload_n 0, 1) := by decide +kernel
theorem dX12_knotSum_129 : decode cX12_knotSum 129 = .ok (.getfield 306, 3) := by decide +kernel
theorem dX12_knotSum_132 : decode cX12_knotSum 132 = .ok (.if_icmp .ge 29, 3) := by decide +kernel
theorem dX12_knotSum_135 : decode cX12_knotSum 135 = .ok (.lload 6, 2) := by decide +kernel
theorem dX12_knotSum_137 : decode cX12_knotSum 137 = .ok (.aload_n 0, 1) := by decide +kernel
theorem dX12_knotSum_138 : decode cX12_knotSum 138 = .ok (.getfield 93, 3) := by decide +kernel
theorem dX12_knotSum_141 : decode cX12_knotSum 141 = .ok (.bipush 6, 2) := by decide +kernel
theorem dX12_knotSum_143 : decode cX12_knotSum 143 = .ok (.iload 5, 2) := by decide +kernel
theorem dX12_knotSum_145 : decode cX12_knotSum 145 = .ok (.imul, 1) := by decide +kernel
theorem dX12_knotSum_146 : decode cX12_knotSum 146 = .ok (.iload 8, 2) := by decide +kernel
theorem dX12_knotSum_148 : decode cX12_knotSum 148 = .ok (.iadd, 1) := by decide +kernel
theorem dX12_knotSum_149 : decode cX12_knotSum 149 = .ok (.laload, 1) := by decide +kernel
theorem dX12_knotSum_150 : decode cX12_knotSum 150 = .ok (.invokestatic 254, 3) := by decide +kernel
theorem dX12_knotSum_153 : decode cX12_knotSum 153 = .ok (.lstore 6, 2) := by decide +kernel
theorem dX12_knotSum_155 : decode cX12_knotSum 155 = .ok (.iinc 8 1, 3) := by decide +kernel
theorem dX12_knotSum_158 : decode cX12_knotSum 158 = .ok (.goto (-32), 3) := by decide +kernel
theorem dX12_knotSum_161 : decode cX12_knotSum 161 = .ok (.lload_n 3, 1) := by decide +kernel
theorem dX12_knotSum_162 : decode cX12_knotSum 162 = .ok (.lload 6, 2) := by decide +kernel
theorem dX12_knotSum_164 : decode cX12_knotSum 164 = .ok (.ladd, 1) := by decide +kernel
theorem dX12_knotSum_165 : decode cX12_knotSum 165 = .ok (.lstore_n 3, 1) := by decide +kernel
theorem dX12_knotSum_166 : decode cX12_knotSum 166 = .ok (.iinc 5 1, 3) := by decide +kernel
theorem dX12_knotSum_169 : decode cX12_knotSum 169 = .ok (.goto (-56), 3) := by decide +kernel
theorem dX12_knotSum_172 : decode cX12_knotSum 172 = .ok (.lload_n 3, 1) := by decide +kernel
theorem dX12_knotSum_173 : decode cX12_knotSum 173 = .ok (.lreturn, 1) := by decide +kernel
theorem dX12_divisorOf_0 : decode cX12_divisorOf 0 = .ok (.lload_n 2, 1) := by decide +kernel
theorem dX12_divisorOf_1 : decode cX12_divisorOf 1 = .ok (.lconst 0, 1) := by decide +kernel
theorem dX12_divisorOf_2 : decode cX12_divisorOf 2 = .ok (.lcmp, 1) := by decide +kernel
theorem dX12_divisorOf_3 : decode cX12_divisorOf 3 = .ok (.ifCond .ne 7, 3) := by decide +kernel
theorem dX12_divisorOf_6 : decode cX12_divisorOf 6 = .ok (.lload_n 0, 1) := by decide +kernel
theorem dX12_divisorOf_7 : decode cX12_divisorOf 7 = .ok (.goto 10, 3) := by decide +kernel
theorem dX12_divisorOf_10 : decode cX12_divisorOf 10 = .ok (.lload_n 2, 1) := by decide +kernel
theorem dX12_divisorOf_11 : decode cX12_divisorOf 11 = .ok (.lload_n 0, 1) := by decide +kernel
theorem dX12_divisorOf_12 : decode cX12_divisorOf 12 = .ok (.lload_n 2, 1) := by decide +kernel
theorem dX12_divisorOf_13 : decode cX12_divisorOf 13 = .ok (.lrem, 1) := by decide +kernel
theorem dX12_divisorOf_14 : decode cX12_divisorOf 14 = .ok (.invokestatic 446, 3) := by decide +kernel
theorem dX12_divisorOf_17 : decode cX12_divisorOf 17 = .ok (.lreturn, 1) := by decide +kernel
theorem dX12_plainLong_0 : decode cX12_plainLong 0 = .ok (.lload_n 2, 1) := by decide +kernel
theorem dX12_plainLong_1 : decode cX12_plainLong 1 = .ok (.lload_n 0, 1) := by decide +kernel
theorem dX12_plainLong_2 : decode cX12_plainLong 2 = .ok (.invokestatic 446, 3) := by decide +kernel
theorem dX12_plainLong_5 : decode cX12_plainLong 5 = .ok (.lstore 5, 2) := by decide +kernel
theorem dX12_plainLong_7 : decode cX12_plainLong 7 = .ok (.iload 4, 2) := by decide +kernel
theorem dX12_plainLong_9 : decode cX12_plainLong 9 = .ok (.ifCond .ne 10, 3) := by decide +kernel
theorem dX12_plainLong_12 : decode cX12_plainLong 12 = .ok (.lload_n 0, 1) := by decide +kernel
theorem dX12_plainLong_13 : decode cX12_plainLong 13 = .ok (.lload 5, 2) := by decide +kernel
theorem dX12_plainLong_15 : decode cX12_plainLong 15 = .ok (.ldiv, 1) := by decide +kernel
theorem dX12_plainLong_16 : decode cX12_plainLong 16 = .ok (.goto 7, 3) := by decide +kernel
theorem dX12_plainLong_19 : decode cX12_plainLong 19 = .ok (.lload_n 2, 1) := by decide +kernel
theorem dX12_plainLong_20 : decode cX12_plainLong 20 = .ok (.lload 5, 2) := by decide +kernel
theorem dX12_plainLong_22 : decode cX12_plainLong 22 = .ok (.ldiv, 1) := by decide +kernel
theorem dX12_plainLong_23 : decode cX12_plainLong 23 = .ok (.lreturn, 1) := by decide +kernel
theorem dX12_belowBy_0 : decode cX12_belowBy 0 = .ok (.aload_n 0, 1) := by decide +kernel
theorem dX12_belowBy_1 : decode cX12_belowBy 1 = .ok (.invokevirtual 375, 3) := by decide +kernel
theorem dX12_belowBy_4 : decode cX12_belowBy 4 = .ok (.bipush 100, 2) := by decide +kernel
theorem dX12_belowBy_6 : decode cX12_belowBy 6 = .ok (.idiv, 1) := by decide +kernel
theorem dX12_belowBy_7 : decode cX12_belowBy 7 = .ok (.i2l, 1) := by decide +kernel
theorem dX12_belowBy_8 : decode cX12_belowBy 8 = .ok (.lstore_n 2, 1) := by decide +kernel
theorem dX12_belowBy_9 : decode cX12_belowBy 9 = .ok (.iconst 0, 1) := by decide +kernel
theorem dX12_belowBy_10 : decode cX12_belowBy 10 = .ok (.istore 4, 2) := by decide +kernel
theorem dX12_belowBy_12 : decode cX12_belowBy 12 = .ok (.iload 4, 2) := by decide +kernel
theorem dX12_belowBy_14 : decode cX12_belowBy 14 = .ok (.iload_n 1, 1) := by decide +kernel
theorem dX12_belowBy_15 : decode cX12_belowBy 15 = .ok (.if_icmp .ge 15, 3) := by decide +kernel
theorem dX12_belowBy_18 : decode cX12_belowBy 18 = .ok (.lload_n 2, 1) := by decide +kernel
theorem dX12_belowBy_19 : decode cX12_belowBy 19 = .ok (.ldc2_w 440, 3) := by decide +kernel
theorem dX12_belowBy_22 : decode cX12_belowBy 22 = .ok (.lmul, 1) := by decide +kernel
theorem dX12_belowBy_23 : decode cX12_belowBy 23 = .ok (.lstore_n 2, 1) := by decide +kernel
theorem dX12_belowBy_24 : decode cX12_belowBy 24 = .ok (.iinc 4 1, 3) := by decide +kernel
theorem dX12_belowBy_27 : decode cX12_belowBy 27 = .ok (.goto (-15), 3) := by decide +kernel
theorem dX12_belowBy_30 : decode cX12_belowBy 30 = .ok (.lload_n 2, 1) := by decide +kernel
theorem dX12_belowBy_31 : decode cX12_belowBy 31 = .ok (.lreturn, 1) := by decide +kernel
theorem dX12_knots_0 : decode cX12_knots 0 = .ok (.aload_n 0, 1) := by decide +kernel
theorem dX12_knots_1 : decode cX12_knots 1 = .ok (.getfield 306, 3) := by decide +kernel
theorem dX12_knots_4 : decode cX12_knots 4 = .ok (.ifCond .eq 35, 3) := by decide +kernel
theorem dX12_knots_7 : decode cX12_knots 7 = .ok (.iload_n 1, 1) := by decide +kernel
theorem dX12_knots_8 : decode cX12_knots 8 = .ok (.iconst 1, 1) := by decide +kernel
theorem dX12_knots_9 : decode cX12_knots 9 = .ok (.iconst 3, 1) := by decide +kernel
theorem dX12_knots_10 : decode cX12_knots 10 = .ok (.invokestatic 269, 3) := by decide +kernel
theorem dX12_knots_13 : decode cX12_knots 13 = .ok (.ifCond .eq 26, 3) := by decide +kernel
theorem dX12_knots_16 : decode cX12_knots 16 = .ok (.iload_n 3, 1) := by decide +kernel
theorem dX12_knots_17 : decode cX12_knots 17 = .ok (.iconst 0, 1) := by decide +kernel
theorem dX12_knots_18 : decode cX12_knots 18 = .ok (.iconst 1, 1) := by decide +kernel
theorem dX12_knots_19 : decode cX12_knots 19 = .ok (.invokestatic 269, 3) := by decide +kernel
theorem dX12_knots_22 : decode cX12_knots 22 = .ok (.ifCond .eq 17, 3) := by decide +kernel
theorem dX12_knots_25 : decode cX12_knots 25 = .ok (.iload_n 2, 1) := by decide +kernel
theorem dX12_knots_26 : decode cX12_knots 26 = .ok (.iconst 1, 1) := by decide +kernel
theorem dX12_knots_27 : decode cX12_knots 27 = .ok (.iload_n 1, 1) := by decide +kernel
theorem dX12_knots_28 : decode cX12_knots 28 = .ok (.ishl, 1) := by decide +kernel
theorem dX12_knots_29 : decode cX12_knots 29 = .ok (.aload_n 0, 1) := by decide +kernel
theorem dX12_knots_30 : decode cX12_knots 30 = .ok (.getfield 97, 3) := by decide +kernel
theorem dX12_knots_33 : decode cX12_knots 33 = .ok (.invokestatic 359, 3) := by decide +kernel
theorem dX12_knots_36 : decode cX12_knots 36 = .ok (.ifCond .ne 7, 3) := by decide +kernel
theorem dX12_knots_39 : decode cX12_knots 39 = .ok (.ldc2_w 449, 3) := by decide +kernel
theorem dX12_knots_42 : decode cX12_knots 42 = .ok (.lreturn, 1) := by decide +kernel
theorem dX12_knots_43 : decode cX12_knots 43 = .ok (.aload_n 0, 1) := by decide +kernel
theorem dX12_knots_44 : decode cX12_knots 44 = .ok (.iload_n 1, 1) := by decide +kernel
theorem dX12_knots_45 : decode cX12_knots 45 = .ok (.aload_n 0, 1) := by decide +kernel
theorem dX12_knots_46 : decode cX12_knots 46 = .ok (.getfield 97, 3) := by decide +kernel
theorem dX12_knots_49 : decode cX12_knots 49 = .ok (.invokevirtual 451, 3) := by decide +kernel
theorem dX12_knots_52 : decode cX12_knots 52 = .ok (.aload_n 0, 1) := by decide +kernel
theorem dX12_knots_53 : decode cX12_knots 53 = .ok (.iload_n 1, 1) := by decide +kernel
theorem dX12_knots_54 : decode cX12_knots 54 = .ok (.invokevirtual 455, 3) := by decide +kernel
theorem dX12_knots_57 : decode cX12_knots 57 = .ok (.iload_n 3, 1) := by decide +kernel
theorem dX12_knots_58 : decode cX12_knots 58 = .ok (.invokestatic 459, 3) := by decide +kernel
theorem dX12_knots_61 : decode cX12_knots 61 = .ok (.lreturn, 1) := by decide +kernel
theorem dX12_bestKnots_0 : decode cX12_bestKnots 0 = .ok (.aload_n 0, 1) := by decide +kernel
theorem dX12_bestKnots_1 : decode cX12_bestKnots 1 = .ok (.getfield 306, 3) := by decide +kernel
theorem dX12_bestKnots_4 : decode cX12_bestKnots 4 = .ok (.ifCond .eq 21, 3) := by decide +kernel
theorem dX12_bestKnots_7 : decode cX12_bestKnots 7 = .ok (.iload_n 1, 1) := by decide +kernel
theorem dX12_bestKnots_8 : decode cX12_bestKnots 8 = .ok (.iconst 1, 1) := by decide +kernel
theorem dX12_bestKnots_9 : decode cX12_bestKnots 9 = .ok (.iconst 3, 1) := by decide +kernel
theorem dX12_bestKnots_10 : decode cX12_bestKnots 10 = .ok (.invokestatic 269, 3) := by decide +kernel
theorem dX12_bestKnots_13 : decode cX12_bestKnots 13 = .ok (.ifCond .eq 12, 3) := by decide +kernel
theorem dX12_bestKnots_16 : decode cX12_bestKnots 16 = .ok (.iload_n 2, 1) := by decide +kernel
theorem dX12_bestKnots_17 : decode cX12_bestKnots 17 = .ok (.iconst 0, 1) := by decide +kernel
theorem dX12_bestKnots_18 : decode cX12_bestKnots 18 = .ok (.iconst 2, 1) := by decide +kernel
theorem dX12_bestKnots_19 : decode cX12_bestKnots 19 = .ok (.invokestatic 269, 3) := by decide +kernel
theorem dX12_bestKnots_22 : decode cX12_bestKnots 22 = .ok (.ifCond .ne 7, 3) := by decide +kernel
theorem dX12_bestKnots_25 : decode cX12_bestKnots 25 = .ok (.ldc2_w 449, 3) := by decide +kernel
theorem dX12_bestKnots_28 : decode cX12_bestKnots 28 = .ok (.lreturn, 1) := by decide +kernel
theorem dX12_bestKnots_29 : decode cX12_bestKnots 29 = .ok (.ldc2_w 449, 3) := by decide +kernel
theorem dX12_bestKnots_32 : decode cX12_bestKnots 32 = .ok (.lstore_n 3, 1) := by decide +kernel
theorem dX12_bestKnots_33 : decode cX12_bestKnots 33 = .ok (.iconst 0, 1) := by decide +kernel
theorem dX12_bestKnots_34 : decode cX12_bestKnots 34 = .ok (.istore 5, 2) := by decide +kernel
theorem dX12_bestKnots_36 : decode cX12_bestKnots 36 = .ok (.iconst 1, 1) := by decide +kernel
theorem dX12_bestKnots_37 : decode cX12_bestKnots 37 = .ok (.iconst 4, 1) := by decide +kernel
theorem dX12_bestKnots_38 : decode cX12_bestKnots 38 = .ok (.iload_n 1, 1) := by decide +kernel
theorem dX12_bestKnots_39 : decode cX12_bestKnots 39 = .ok (.imul, 1) := by decide +kernel
theorem dX12_bestKnots_40 : decode cX12_bestKnots 40 = .ok (.ishl, 1) := by decide +kernel
theorem dX12_bestKnots_41 : decode cX12_bestKnots 41 = .ok (.istore 6, 2) := by decide +kernel
theorem dX12_bestKnots_43 : decode cX12_bestKnots 43 = .ok (.iconst 0, 1) := by decide +kernel
theorem dX12_bestKnots_44 : decode cX12_bestKnots 44 = .ok (.istore 7, 2) := by decide +kernel
theorem dX12_bestKnots_46 : decode cX12_bestKnots 46 = .ok (.iload 7, 2) := by decide +kernel
theorem dX12_bestKnots_48 : decode cX12_bestKnots 48 = .ok (.iload 6, 2) := by decide +kernel
theorem dX12_bestKnots_50 : decode cX12_bestKnots 50 = .ok (.if_icmp .ge 52, 3) := by decide +kernel
theorem dX12_bestKnots_53 : decode cX12_bestKnots 53 = .ok (.aload_n 0, 1) := by decide +kernel
theorem dX12_bestKnots_54 : decode cX12_bestKnots 54 = .ok (.iload 7, 2) := by decide +kernel
theorem dX12_bestKnots_56 : decode cX12_bestKnots 56 = .ok (.iconst 1, 1) := by decide +kernel
theorem dX12_bestKnots_57 : decode cX12_bestKnots 57 = .ok (.iload_n 1, 1) := by decide +kernel
theorem dX12_bestKnots_58 : decode cX12_bestKnots 58 = .ok (.ishl, 1) := by decide +kernel
theorem dX12_bestKnots_59 : decode cX12_bestKnots 59 = .ok (.aload_n 0, 1) := by decide +kernel
theorem dX12_bestKnots_60 : decode cX12_bestKnots 60 = .ok (.getfield 97, 3) := by decide +kernel
theorem dX12_bestKnots_63 : decode cX12_bestKnots 63 = .ok (.invokevirtual 395, 3) := by decide +kernel
theorem dX12_bestKnots_66 : decode cX12_bestKnots 66 = .ok (.aload_n 0, 1) := by decide +kernel
theorem dX12_bestKnots_67 : decode cX12_bestKnots 67 = .ok (.iload_n 1, 1) := by decide +kernel
theorem dX12_bestKnots_68 : decode cX12_bestKnots 68 = .ok (.aload_n 0, 1) := by decide +kernel
theorem dX12_bestKnots_69 : decode cX12_bestKnots 69 = .ok (.getfield 97, 3) := by decide +kernel
theorem dX12_bestKnots_72 : decode cX12_bestKnots 72 = .ok (.invokevirtual 451, 3) := by decide +kernel
theorem dX12_bestKnots_75 : decode cX12_bestKnots 75 = .ok (.lstore 8, 2) := by decide +kernel
theorem dX12_bestKnots_77 : decode cX12_bestKnots 77 = .ok (.lload 8, 2) := by decide +kernel
theorem dX12_bestKnots_79 : decode cX12_bestKnots 79 = .ok (.lload_n 3, 1) := by decide +kernel
theorem dX12_bestKnots_80 : decode cX12_bestKnots 80 = .ok (.lcmp, 1) := by decide +kernel
theorem dX12_bestKnots_81 : decode cX12_bestKnots 81 = .ok (.ifCond .le 15, 3) := by decide +kernel
theorem dX12_bestKnots_84 : decode cX12_bestKnots 84 = .ok (.lload 8, 2) := by decide +kernel
theorem dX12_bestKnots_86 : decode cX12_bestKnots 86 = .ok (.lstore_n 3, 1) := by decide +kernel
theorem dX12_bestKnots_87 : decode cX12_bestKnots 87 = .ok (.aload_n 0, 1) := by decide +kernel
theorem dX12_bestKnots_88 : decode cX12_bestKnots 88 = .ok (.getfield 97, 3) := by decide +kernel
theorem dX12_bestKnots_91 : decode cX12_bestKnots 91 = .ok (.invokestatic 402, 3) := by decide +kernel
theorem dX12_bestKnots_94 : decode cX12_bestKnots 94 = .ok (.istore 5, 2) := by decide +kernel
theorem dX12_bestKnots_96 : decode cX12_bestKnots 96 = .ok (.iinc 7 1, 3) := by decide +kernel
theorem dX12_bestKnots_99 : decode cX12_bestKnots 99 = .ok (.goto (-53), 3) := by decide +kernel
theorem dX12_bestKnots_102 : decode cX12_bestKnots 102 = .ok (.iload_n 2, 1) := by decide +kernel
theorem dX12_bestKnots_103 : decode cX12_bestKnots 103 = .ok (.ifCond .ne 9, 3) := by decide +kernel
theorem dX12_bestKnots_106 : decode cX12_bestKnots 106 = .ok (.iload 5, 2) := by decide +kernel
theorem dX12_bestKnots_108 : decode cX12_bestKnots 108 = .ok (.i2l, 1) := by decide +kernel
theorem dX12_bestKnots_109 : decode cX12_bestKnots 109 = .ok (.goto 15, 3) := by decide +kernel
theorem dX12_bestKnots_112 : decode cX12_bestKnots 112 = .ok (.lload_n 3, 1) := by decide +kernel
theorem dX12_bestKnots_113 : decode cX12_bestKnots 113 = .ok (.aload_n 0, 1) := by decide +kernel
theorem dX12_bestKnots_114 : decode cX12_bestKnots 114 = .ok (.iload_n 1, 1) := by decide +kernel
theorem dX12_bestKnots_115 : decode cX12_bestKnots 115 = .ok (.invokevirtual 455, 3) := by decide +kernel
theorem dX12_bestKnots_118 : decode cX12_bestKnots 118 = .ok (.iload_n 2, 1) := by decide +kernel
theorem dX12_bestKnots_119 : decode cX12_bestKnots 119 = .ok (.iconst 1, 1) := by decide +kernel
theorem dX12_bestKnots_120 : decode cX12_bestKnots 120 = .ok (.isub, 1) := by decide +kernel
theorem dX12_bestKnots_121 : decode cX12_bestKnots 121 = .ok (.invokestatic 459, 3) := by decide +kernel
theorem dX12_bestKnots_124 : decode cX12_bestKnots 124 = .ok (.lreturn, 1) := by decide +kernel
theorem dX12_weather_0 : decode cX12_weather 0 = .ok (.aload_n 0, 1) := by decide +kernel
theorem dX12_weather_1 : decode cX12_weather 1 = .ok (.getfield 306, 3) := by decide +kernel
theorem dX12_weather_4 : decode cX12_weather 4 = .ok (.ifCond .eq 32, 3) := by decide +kernel
theorem dX12_weather_7 : decode cX12_weather 7 = .ok (.iload_n 1, 1) := by decide +kernel
theorem dX12_weather_8 : decode cX12_weather 8 = .ok (.iconst 0, 1) := by decide +kernel
theorem dX12_weather_9 : decode cX12_weather 9 = .ok (.bipush 100, 2) := by decide +kernel
theorem dX12_weather_11 : decode cX12_weather 11 = .ok (.invokestatic 269, 3) := by decide +kernel
theorem dX12_weather_14 : decode cX12_weather 14 = .ok (.ifCond .eq 22, 3) := by decide +kernel
theorem dX12_weather_17 : decode cX12_weather 17 = .ok (.iload_n 2, 1) := by decide +kernel
theorem dX12_weather_18 : decode cX12_weather 18 = .ok (.iconst 0, 1) := by decide +kernel
theorem dX12_weather_19 : decode cX12_weather 19 = .ok (.bipush 100, 2) := by decide +kernel
theorem dX12_weather_21 : decode cX12_weather 21 = .ok (.invokestatic 269, 3) := by decide +kernel
theorem dX12_weather_24 : decode cX12_weather 24 = .ok (.ifCond .eq 12, 3) := by decide +kernel
theorem dX12_weather_27 : decode cX12_weather 27 = .ok (.iload_n 3, 1) := by decide +kernel
theorem dX12_weather_28 : decode cX12_weather 28 = .ok (.iconst 0, 1) := by decide +kernel
theorem dX12_weather_29 : decode cX12_weather 29 = .ok (.iconst 1, 1) := by decide +kernel
theorem dX12_weather_30 : decode cX12_weather 30 = .ok (.invokestatic 269, 3) := by decide +kernel
theorem dX12_weather_33 : decode cX12_weather 33 = .ok (.ifCond .ne 7, 3) := by decide +kernel
theorem dX12_weather_36 : decode cX12_weather 36 = .ok (.ldc2_w 449, 3) := by decide +kernel
theorem dX12_weather_39 : decode cX12_weather 39 = .ok (.lreturn, 1) := by decide +kernel
theorem dX12_weather_40 : decode cX12_weather 40 = .ok (.aload_n 0, 1) := by decide +kernel
theorem dX12_weather_41 : decode cX12_weather 41 = .ok (.getfield 315, 3) := by decide +kernel
theorem dX12_weather_44 : decode cX12_weather 44 = .ok (.istore 4, 2) := by decide +kernel
theorem dX12_weather_46 : decode cX12_weather 46 = .ok (.aload_n 0, 1) := by decide +kernel
theorem dX12_weather_47 : decode cX12_weather 47 = .ok (.getfield 319, 3) := by decide +kernel
theorem dX12_weather_50 : decode cX12_weather 50 = .ok (.istore 5, 2) := by decide +kernel
theorem dX12_weather_52 : decode cX12_weather 52 = .ok (.lconst 0, 1) := by decide +kernel
theorem dX12_weather_53 : decode cX12_weather 53 = .ok (.lstore 6, 2) := by decide +kernel
theorem dX12_weather_55 : decode cX12_weather 55 = .ok (.iconst 0, 1) := by decide +kernel
theorem dX12_weather_56 : decode cX12_weather 56 = .ok (.istore 8, 2) := by decide +kernel
theorem dX12_weather_58 : decode cX12_weather 58 = .ok (.iload 8, 2) := by decide +kernel
theorem dX12_weather_60 : decode cX12_weather 60 = .ok (.iconst 4, 1) := by decide +kernel
theorem dX12_weather_61 : decode cX12_weather 61 = .ok (.if_icmp .ge 97, 3) := by decide +kernel
theorem dX12_weather_64 : decode cX12_weather 64 = .ok (.aload_n 0, 1) := by decide +kernel
theorem dX12_weather_65 : decode cX12_weather 65 = .ok (.iload 8, 2) := by decide +kernel
theorem dX12_weather_67 : decode cX12_weather 67 = .ok (.iconst 2, 1) := by decide +kernel
theorem dX12_weather_68 : decode cX12_weather 68 = .ok (.irem, 1) := by decide +kernel
theorem dX12_weather_69 : decode cX12_weather 69 = .ok (.iconst 1, 1) := by decide +kernel
theorem dX12_weather_70 : decode cX12_weather 70 = .ok (.if_icmp .ne 7, 3) := by decide +kernel
theorem dX12_weather_73 : decode cX12_weather 73 = .ok (.iconst 1, 1) := by decide +kernel
theorem dX12_weather_74 : decode cX12_weather 74 = .ok (.goto 4, 3) := by decide +kernel
theorem dX12_weather_77 : decode cX12_weather 77 = .ok (.iconst 0, 1) := by decide +kernel
theorem dX12_weather_78 : decode cX12_weather 78 = .ok (.putfield 315, 3) := by decide +kernel
theorem dX12_weather_81 : decode cX12_weather 81 = .ok (.aload_n 0, 1) := by decide +kernel
theorem dX12_weather_82 : decode cX12_weather 82 = .ok (.iload 8, 2) := by decide +kernel
theorem dX12_weather_84 : decode cX12_weather 84 = .ok (.iconst 1, 1) := by decide +kernel
theorem dX12_weather_85 : decode cX12_weather 85 = .ok (.if_icmp .le 7, 3) := by decide +kernel
theorem dX12_weather_88 : decode cX12_weather 88 = .ok (.iconst 1, 1) := by decide +kernel
theorem dX12_weather_89 : decode cX12_weather 89 = .ok (.goto 4, 3) := by decide +kernel
theorem dX12_weather_92 : decode cX12_weather 92 = .ok (.iconst 0, 1) := by decide +kernel
theorem dX12_weather_93 : decode cX12_weather 93 = .ok (.putfield 319, 3) := by decide +kernel
theorem dX12_weather_96 : decode cX12_weather 96 = .ok (.aload_n 0, 1) := by decide +kernel
theorem dX12_weather_97 : decode cX12_weather 97 = .ok (.aload_n 0, 1) := by decide +kernel
theorem dX12_weather_98 : decode cX12_weather 98 = .ok (.getfield 49, 3) := by decide +kernel
theorem dX12_weather_101 : decode cX12_weather 101 = .ok (.invokevirtual 378, 3) := by decide +kernel
theorem dX12_weather_104 : decode cX12_weather 104 = .ok (.lload 6, 2) := by decide +kernel
theorem dX12_weather_106 : decode cX12_weather 106 = .ok (.aload_n 0, 1) := by decide +kernel
theorem dX12_weather_107 : decode cX12_weather 107 = .ok (.getfield 315, 3) := by decide +kernel
theorem dX12_weather_110 : decode cX12_weather 110 = .ok (.ifCond .eq 7, 3) := by decide +kernel
theorem dX12_weather_113 : decode cX12_weather 113 = .ok (.iload_n 1, 1) := by decide +kernel
theorem dX12_weather_114 : decode cX12_weather 114 = .ok (.goto 7, 3) := by decide +kernel
theorem dX12_weather_117 : decode cX12_weather 117 = .ok (.bipush 100, 2) := by decide +kernel
theorem dX12_weather_119 : decode cX12_weather 119 = .ok (.iload_n 1, 1) := by decide +kernel
theorem dX12_weather_120 : decode cX12_weather 120 = .ok (.isub, 1) := by decide +kernel
theorem dX12_weather_121 : decode cX12_weather 121 = .ok (.i2l, 1) := by decide +kernel
theorem dX12_weather_122 : decode cX12_weather 122 = .ok (.aload_n 0, 1) := by decide +kernel
theorem dX12_weather_123 : decode cX12_weather 123 = .ok (.getfield 319, 3) := by decide +kernel
theorem dX12_weather_126 : decode cX12_weather 126 = .ok (.ifCond .eq 7, 3) := by decide +kernel
theorem dX12_weather_129 : decode cX12_weather 129 = .ok (.iload_n 2, 1) := by decide +kernel
theorem dX12_weather_130 : decode cX12_weather 130 = .ok (.goto 7, 3) := by decide +kernel
theorem dX12_weather_133 : decode cX12_weather 133 = .ok (.bipush 100, 2) := by decide +kernel
theorem dX12_weather_135 : decode cX12_weather 135 = .ok (.iload_n 2, 1) := by decide +kernel
theorem dX12_weather_136 : decode cX12_weather 136 = .ok (.isub, 1) := by decide +kernel
theorem dX12_weather_137 : decode cX12_weather 137 = .ok (.i2l, 1) := by decide +kernel
theorem dX12_weather_138 : decode cX12_weather 138 = .ok (.lmul, 1) := by decide +kernel
theorem dX12_weather_139 : decode cX12_weather 139 = .ok (.aload_n 0, 1) := by decide +kernel
theorem dX12_weather_140 : decode cX12_weather 140 = .ok (.aload_n 0, 1) := by decide +kernel
theorem dX12_weather_141 : decode cX12_weather 141 = .ok (.getfield 52, 3) := by decide +kernel
theorem dX12_weather_144 : decode cX12_weather 144 = .ok (.invokevirtual 382, 3) := by decide +kernel
theorem dX12_weather_147 : decode cX12_weather 147 = .ok (.i2l, 1) := by decide +kernel
theorem dX12_weather_148 : decode cX12_weather 148 = .ok (.lmul, 1) := by decide +kernel
theorem dX12_weather_149 : decode cX12_weather 149 = .ok (.ladd, 1) := by decide +kernel
theorem dX12_weather_150 : decode cX12_weather 150 = .ok (.lstore 6, 2) := by decide +kernel
theorem dX12_weather_152 : decode cX12_weather 152 = .ok (.iinc 8 1, 3) := by decide +kernel
theorem dX12_weather_155 : decode cX12_weather 155 = .ok (.goto (-97), 3) := by decide +kernel
theorem dX12_weather_158 : decode cX12_weather 158 = .ok (.aload_n 0, 1) := by decide +kernel
theorem dX12_weather_159 : decode cX12_weather 159 = .ok (.iload 4, 2) := by decide +kernel
theorem dX12_weather_161 : decode cX12_weather 161 = .ok (.putfield 315, 3) := by decide +kernel
theorem dX12_weather_164 : decode cX12_weather 164 = .ok (.aload_n 0, 1) := by decide +kernel
theorem dX12_weather_165 : decode cX12_weather 165 = .ok (.iload 5, 2) := by decide +kernel
theorem dX12_weather_167 : decode cX12_weather 167 = .ok (.putfield 319, 3) := by decide +kernel
theorem dX12_weather_170 : decode cX12_weather 170 = .ok (.lload 6, 2) := by decide +kernel
theorem dX12_weather_172 : decode cX12_weather 172 = .ok (.aload_n 0, 1) := by decide +kernel
theorem dX12_weather_173 : decode cX12_weather 173 = .ok (.iconst 3, 1) := by decide +kernel
theorem dX12_weather_174 : decode cX12_weather 174 = .ok (.invokevirtual 455, 3) := by decide +kernel
theorem dX12_weather_177 : decode cX12_weather 177 = .ok (.iload_n 3, 1) := by decide +kernel
theorem dX12_weather_178 : decode cX12_weather 178 = .ok (.invokestatic 459, 3) := by decide +kernel
theorem dX12_weather_181 : decode cX12_weather 181 = .ok (.lreturn, 1) := by decide +kernel
theorem dX12_tongueSum_0 : decode cX12_tongueSum 0 = .ok (.aload_n 0, 1) := by decide +kernel
theorem dX12_tongueSum_1 : decode cX12_tongueSum 1 = .ok (.getfield 315, 3) := by decide +kernel
theorem dX12_tongueSum_4 : decode cX12_tongueSum 4 = .ok (.istore_n 3, 1) := by decide +kernel
theorem dX12_tongueSum_5 : decode cX12_tongueSum 5 = .ok (.aload_n 0, 1) := by decide +kernel
theorem dX12_tongueSum_6 : decode cX12_tongueSum 6 = .ok (.getfield 319, 3) := by decide +kernel
theorem dX12_tongueSum_9 : decode cX12_tongueSum 9 = .ok (.istore 4, 2) := by decide +kernel
theorem dX12_tongueSum_11 : decode cX12_tongueSum 11 = .ok (.aload_n 0, 1) := by decide +kernel
theorem dX12_tongueSum_12 : decode cX12_tongueSum 12 = .ok (.iload_n 1, 1) := by decide +kernel
theorem dX12_tongueSum_13 : decode cX12_tongueSum 13 = .ok (.putfield 315, 3) := by decide +kernel
theorem dX12_tongueSum_16 : decode cX12_tongueSum 16 = .ok (.aload_n 0, 1) := by decide +kernel
theorem dX12_tongueSum_17 : decode cX12_tongueSum 17 = .ok (.iload_n 2, 1) := by decide +kernel
theorem dX12_tongueSum_18 : decode cX12_tongueSum 18 = .ok (.putfield 319, 3) := by decide +kernel
theorem dX12_tongueSum_21 : decode cX12_tongueSum 21 = .ok (.aload_n 0, 1) := by decide +kernel
theorem dX12_tongueSum_22 : decode cX12_tongueSum 22 = .ok (.aload_n 0, 1) := by decide +kernel
theorem dX12_tongueSum_23 : decode cX12_tongueSum 23 = .ok (.getfield 309, 3) := by decide +kernel
theorem dX12_tongueSum_26 : decode cX12_tongueSum 26 = .ok (.invokevirtual 408, 3) := by decide +kernel
theorem dX12_tongueSum_29 : decode cX12_tongueSum 29 = .ok (.aload_n 0, 1) := by decide +kernel
theorem dX12_tongueSum_30 : decode cX12_tongueSum 30 = .ok (.iload_n 3, 1) := by decide +kernel
theorem dX12_tongueSum_31 : decode cX12_tongueSum 31 = .ok (.putfield 315, 3) := by decide +kernel
theorem dX12_tongueSum_34 : decode cX12_tongueSum 34 = .ok (.aload_n 0, 1) := by decide +kernel
theorem dX12_tongueSum_35 : decode cX12_tongueSum 35 = .ok (.iload 4, 2) := by decide +kernel
theorem dX12_tongueSum_37 : decode cX12_tongueSum 37 = .ok (.putfield 319, 3) := by decide +kernel
theorem dX12_tongueSum_40 : decode cX12_tongueSum 40 = .ok (.aload_n 0, 1) := by decide +kernel
theorem dX12_tongueSum_41 : decode cX12_tongueSum 41 = .ok (.getfield 392, 3) := by decide +kernel
theorem dX12_tongueSum_44 : decode cX12_tongueSum 44 = .ok (.ireturn, 1) := by decide +kernel
theorem dX12_skill_0 : decode cX12_skill 0 = .ok (.aload_n 0, 1) := by decide +kernel
theorem dX12_skill_1 : decode cX12_skill 1 = .ok (.getfield 306, 3) := by decide +kernel
theorem dX12_skill_4 : decode cX12_skill 4 = .ok (.ifCond .eq 21, 3) := by decide +kernel
theorem dX12_skill_7 : decode cX12_skill 7 = .ok (.iload_n 1, 1) := by decide +kernel
theorem dX12_skill_8 : decode cX12_skill 8 = .ok (.iconst 0, 1) := by decide +kernel
theorem dX12_skill_9 : decode cX12_skill 9 = .ok (.iconst 2, 1) := by decide +kernel
theorem dX12_skill_10 : decode cX12_skill 10 = .ok (.invokestatic 269, 3) := by decide +kernel
theorem dX12_skill_13 : decode cX12_skill 13 = .ok (.ifCond .eq 12, 3) := by decide +kernel
theorem dX12_skill_16 : decode cX12_skill 16 = .ok (.iload_n 2, 1) := by decide +kernel
theorem dX12_skill_17 : decode cX12_skill 17 = .ok (.iconst 0, 1) := by decide +kernel
theorem dX12_skill_18 : decode cX12_skill 18 = .ok (.iconst 1, 1) := by decide +kernel
theorem dX12_skill_19 : decode cX12_skill 19 = .ok (.invokestatic 269, 3) := by decide +kernel
theorem dX12_skill_22 : decode cX12_skill 22 = .ok (.ifCond .ne 7, 3) := by decide +kernel
theorem dX12_skill_25 : decode cX12_skill 25 = .ok (.ldc_w 463, 3) := by decide +kernel
theorem dX12_skill_28 : decode cX12_skill 28 = .ok (.ireturn, 1) := by decide +kernel
theorem dX12_skill_29 : decode cX12_skill 29 = .ok (.aload_n 0, 1) := by decide +kernel
theorem dX12_skill_30 : decode cX12_skill 30 = .ok (.aload_n 0, 1) := by decide +kernel
theorem dX12_skill_31 : decode cX12_skill 31 = .ok (.iconst 0, 1) := by decide +kernel
theorem dX12_skill_32 : decode cX12_skill 32 = .ok (.iconst 0, 1) := by decide +kernel
theorem dX12_skill_33 : decode cX12_skill 33 = .ok (.invokevirtual 464, 3) := by decide +kernel
theorem dX12_skill_36 : decode cX12_skill 36 = .ok (.aload_n 0, 1) := by decide +kernel
theorem dX12_skill_37 : decode cX12_skill 37 = .ok (.iload_n 1, 1) := by decide +kernel
theorem dX12_skill_38 : decode cX12_skill 38 = .ok (.iconst 1, 1) := by decide +kernel
theorem dX12_skill_39 : decode cX12_skill 39 = .ok (.if_icmp .eq 7, 3) := by decide +kernel
theorem dX12_skill_42 : decode cX12_skill 42 = .ok (.iconst 1, 1) := by decide +kernel
theorem dX12_skill_43 : decode cX12_skill 43 = .ok (.goto 4, 3) := by decide +kernel
theorem dX12_skill_46 : decode cX12_skill 46 = .ok (.iconst 0, 1) := by decide +kernel
theorem dX12_skill_47 : decode cX12_skill 47 = .ok (.iload_n 1, 1) := by decide +kernel
theorem dX12_skill_48 : decode cX12_skill 48 = .ok (.ifCond .eq 7, 3) := by decide +kernel
theorem dX12_skill_51 : decode cX12_skill 51 = .ok (.iconst 1, 1) := by decide +kernel
theorem dX12_skill_52 : decode cX12_skill 52 = .ok (.goto 4, 3) := by decide +kernel
theorem dX12_skill_55 : decode cX12_skill 55 = .ok (.iconst 0, 1) := by decide +kernel
theorem dX12_skill_56 : decode cX12_skill 56 = .ok (.invokevirtual 464, 3) := by decide +kernel
theorem dX12_skill_59 : decode cX12_skill 59 = .ok (.isub, 1) := by decide +kernel
theorem dX12_skill_60 : decode cX12_skill 60 = .ok (.iload_n 2, 1) := by decide +kernel
theorem dX12_skill_61 : decode cX12_skill 61 = .ok (.invokevirtual 386, 3) := by decide +kernel
theorem dX12_skill_64 : decode cX12_skill 64 = .ok (.ireturn, 1) := by decide +kernel
theorem dX12_cases_0 : decode cX12_cases 0 = .ok (.aload_n 0, 1) := by decide +kernel
theorem dX12_cases_1 : decode cX12_cases 1 = .ok (.getfield 306, 3) := by decide +kernel
theorem dX12_cases_4 : decode cX12_cases 4 = .ok (.ifCond .eq 12, 3) := by decide +kernel
theorem dX12_cases_7 : decode cX12_cases 7 = .ok (.iload_n 1, 1) := by decide +kernel
theorem dX12_cases_8 : decode cX12_cases 8 = .ok (.iconst 0, 1) := by decide +kernel
theorem dX12_cases_9 : decode cX12_cases 9 = .ok (.iconst 1, 1) := by decide +kernel
theorem dX12_cases_10 : decode cX12_cases 10 = .ok (.invokestatic 269, 3) := by decide +kernel
theorem dX12_cases_13 : decode cX12_cases 13 = .ok (.ifCond .ne 5, 3) := by decide +kernel
theorem dX12_cases_16 : decode cX12_cases 16 = .ok (.iconst (-1), 1) := by decide +kernel
theorem dX12_cases_17 : decode cX12_cases 17 = .ok (.ireturn, 1) := by decide +kernel
theorem dX12_cases_18 : decode cX12_cases 18 = .ok (.iconst 0, 1) := by decide +kernel
theorem dX12_cases_19 : decode cX12_cases 19 = .ok (.istore_n 2, 1) := by decide +kernel
theorem dX12_cases_20 : decode cX12_cases 20 = .ok (.iconst 0, 1) := by decide +kernel
theorem dX12_cases_21 : decode cX12_cases 21 = .ok (.istore_n 3, 1) := by decide +kernel
theorem dX12_cases_22 : decode cX12_cases 22 = .ok (.iload_n 3, 1) := by decide +kernel
theorem dX12_cases_23 : decode cX12_cases 23 = .ok (.aload_n 0, 1) := by decide +kernel
theorem dX12_cases_24 : decode cX12_cases 24 = .ok (.getfield 306, 3) := by decide +kernel
theorem dX12_cases_27 : decode cX12_cases 27 = .ok (.if_icmp .ge 142, 3) := by decide +kernel
theorem dX12_cases_30 : decode cX12_cases 30 = .ok (.aload_n 0, 1) := by decide +kernel
theorem dX12_cases_31 : decode cX12_cases 31 = .ok (.iload_n 3, 1) := by decide +kernel
theorem dX12_cases_32 : decode cX12_cases 32 = .ok (.iconst 0, 1) := by decide +kernel
theorem dX12_cases_33 : decode cX12_cases 33 = .ok (.invokevirtual 343, 3) := by decide +kernel
theorem dX12_cases_36 : decode cX12_cases 36 = .ok (.ifCond .le 127, 3) := by decide +kernel
theorem dX12_cases_39 : decode cX12_cases 39 = .ok (.aload_n 0, 1) := by decide +kernel
theorem dX12_cases_40 : decode cX12_cases 40 = .ok (.getfield 49, 3) := by decide +kernel
theorem dX12_cases_43 : decode cX12_cases 43 = .ok (.aload_n 0, 1) := by decide +kernel
theorem dX12_cases_44 : decode cX12_cases 44 = .ok (.iload_n 3, 1) := by decide +kernel
theorem dX12_cases_45 : decode cX12_cases 45 = .ok (.invokevirtual 366, 3) := by decide +kernel
theorem dX12_cases_48 : decode cX12_cases 48 = .ok (.iaload, 1) := by decide +kernel
theorem dX12_cases_49 : decode cX12_cases 49 = .ok (.istore 4, 2) := by decide +kernel
theorem dX12_cases_51 : decode cX12_cases 51 = .ok (.aload_n 0, 1) := by decide +kernel
theorem dX12_cases_52 : decode cX12_cases 52 = .ok (.getfield 52, 3) := by decide +kernel
theorem dX12_cases_55 : decode cX12_cases 55 = .ok (.iconst 4, 1) := by decide +kernel
theorem dX12_cases_56 : decode cX12_cases 56 = .ok (.aload_n 0, 1) := by decide +kernel
theorem dX12_cases_57 : decode cX12_cases 57 = .ok (.iload_n 3, 1) := by decide +kernel
theorem dX12_cases_58 : decode cX12_cases 58 = .ok (.invokevirtual 369, 3) := by decide +kernel
theorem dX12_cases_61 : decode cX12_cases 61 = .ok (.imul, 1) := by decide +kernel
theorem dX12_cases_62 : decode cX12_cases 62 = .ok (.iload 4, 2) := by decide +kernel
theorem dX12_cases_64 : decode cX12_cases 64 = .ok (.iadd, 1) := by decide +kernel
theorem dX12_cases_65 : decode cX12_cases 65 = .ok (.iaload, 1) := by decide +kernel
theorem dX12_cases_66 : decode cX12_cases 66 = .ok (.iload_n 3, 1) := by decide +kernel
theorem dX12_cases_67 : decode cX12_cases 67 = .ok (.if_icmp .ne 7, 3) := by decide +kernel
theorem dX12_cases_70 : decode cX12_cases 70 = .ok (.iconst 1, 1) := by decide +kernel
theorem dX12_cases_71 : decode cX12_cases 71 = .ok (.goto 4, 3) := by decide +kernel
theorem dX12_cases_74 : decode cX12_cases 74 = .ok (.iconst 0, 1) := by decide +kernel
theorem dX12_cases_75 : decode cX12_cases 75 = .ok (.istore 5, 2) := by decide +kernel
theorem dX12_cases_77 : decode cX12_cases 77 = .ok (.iload 4, 2) := by decide +kernel
theorem dX12_cases_79 : decode cX12_cases 79 = .ok (.ifCond .eq 10, 3) := by decide +kernel
theorem dX12_cases_82 : decode cX12_cases 82 = .ok (.aload_n 0, 1) := by decide +kernel
theorem dX12_cases_83 : decode cX12_cases 83 = .ok (.getfield 312, 3) := by decide +kernel
theorem dX12_cases_86 : decode cX12_cases 86 = .ok (.ifCond .ne 7, 3) := by decide +kernel
theorem dX12_cases_89 : decode cX12_cases 89 = .ok (.iconst 1, 1) := by decide +kernel
theorem dX12_cases_90 : decode cX12_cases 90 = .ok (.goto 4, 3) := by decide +kernel
theorem dX12_cases_93 : decode cX12_cases 93 = .ok (.iconst 0, 1) := by decide +kernel
theorem dX12_cases_94 : decode cX12_cases 94 = .ok (.istore 6, 2) := by decide +kernel
theorem dX12_cases_96 : decode cX12_cases 96 = .ok (.iload 6, 2) := by decide +kernel
theorem dX12_cases_98 : decode cX12_cases 98 = .ok (.ifCond .eq 8, 3) := by decide +kernel
theorem dX12_cases_101 : decode cX12_cases 101 = .ok (.iload 5, 2) := by decide +kernel
theorem dX12_cases_103 : decode cX12_cases 103 = .ok (.goto 24, 3) := by decide +kernel
theorem dX12_cases_106 : decode cX12_cases 106 = .ok (.aload_n 0, 1) := by decide +kernel
theorem dX12_cases_107 : decode cX12_cases 107 = .ok (.getfield 52, 3) := by decide +kernel
theorem dX12_cases_110 : decode cX12_cases 110 = .ok (.iconst 4, 1) := by decide +kernel
theorem dX12_cases_111 : decode cX12_cases 111 = .ok (.aload_n 0, 1) := by decide +kernel
theorem dX12_cases_112 : decode cX12_cases 112 = .ok (.iload_n 3, 1) := by decide +kernel
theorem dX12_cases_113 : decode cX12_cases 113 = .ok (.invokevirtual 369, 3) := by decide +kernel
theorem dX12_cases_116 : decode cX12_cases 116 = .ok (.imul, 1) := by decide +kernel
theorem dX12_cases_117 : decode cX12_cases 117 = .ok (.iaload, 1) := by decide +kernel
theorem dX12_cases_118 : decode cX12_cases 118 = .ok (.iload_n 3, 1) := by decide +kernel
theorem dX12_cases_119 : decode cX12_cases 119 = .ok (.if_icmp .ne 7, 3) := by decide +kernel
theorem dX12_cases_122 : decode cX12_cases 122 = .ok (.iconst 1, 1) := by decide +kernel
theorem dX12_cases_123 : decode cX12_cases 123 = .ok (.goto 4, 3) := by decide +kernel
theorem dX12_cases_126 : decode cX12_cases 126 = .ok (.iconst 0, 1) := by decide +kernel
theorem dX12_cases_127 : decode cX12_cases 127 = .ok (.istore 7, 2) := by decide +kernel
theorem dX12_cases_129 : decode cX12_cases 129 = .ok (.iload_n 2, 1) := by decide +kernel
theorem dX12_cases_130 : decode cX12_cases 130 = .ok (.iload_n 1, 1) := by decide +kernel
theorem dX12_cases_131 : decode cX12_cases 131 = .ok (.ifCond .ne 16, 3) := by decide +kernel
theorem dX12_cases_134 : decode cX12_cases 134 = .ok (.iload 5, 2) := by decide +kernel
theorem dX12_cases_136 : decode cX12_cases 136 = .ok (.ifCond .eq 24, 3) := by decide +kernel
theorem dX12_cases_139 : decode cX12_cases 139 = .ok (.iload 7, 2) := by decide +kernel
theorem dX12_cases_141 : decode cX12_cases 141 = .ok (.ifCond .eq 19, 3) := by decide +kernel
theorem dX12_cases_144 : decode cX12_cases 144 = .ok (.goto 10, 3) := by decide +kernel
theorem dX12_cases_147 : decode cX12_cases 147 = .ok (.iload 5, 2) := by decide +kernel
theorem dX12_cases_149 : decode cX12_cases 149 = .ok (.iload 7, 2) := by decide +kernel
theorem dX12_cases_151 : decode cX12_cases 151 = .ok (.if_icmp .eq 9, 3) := by decide +kernel
theorem dX12_cases_154 : decode cX12_cases 154 = .ok (.iconst 1, 1) := by decide +kernel
theorem dX12_cases_155 : decode cX12_cases 155 = .ok (.iload_n 3, 1) := by decide +kernel
theorem dX12_cases_156 : decode cX12_cases 156 = .ok (.ishl, 1) := by decide +kernel
theorem dX12_cases_157 : decode cX12_cases 157 = .ok (.goto 4, 3) := by decide +kernel
theorem dX12_cases_160 : decode cX12_cases 160 = .ok (.iconst 0, 1) := by decide +kernel
theorem dX12_cases_161 : decode cX12_cases 161 = .ok (.ior, 1) := by decide +kernel
theorem dX12_cases_162 : decode cX12_cases 162 = .ok (.istore_n 2, 1) := by decide +kernel
theorem dX12_cases_163 : decode cX12_cases 163 = .ok (.iinc 3 1, 3) := by decide +kernel
theorem dX12_cases_166 : decode cX12_cases 166 = .ok (.goto (-144), 3) := by decide +kernel
theorem dX12_cases_169 : decode cX12_cases 169 = .ok (.iload_n 2, 1) := by decide +kernel
theorem dX12_cases_170 : decode cX12_cases 170 = .ok (.ireturn, 1) := by decide +kernel
theorem dX12_mixed_0 : decode cX12_mixed 0 = .ok (.aload_n 0, 1) := by decide +kernel
theorem dX12_mixed_1 : decode cX12_mixed 1 = .ok (.getfield 306, 3) := by decide +kernel
theorem dX12_mixed_4 : decode cX12_mixed 4 = .ok (.ifCond .eq 8, 3) := by decide +kernel
theorem dX12_mixed_7 : decode cX12_mixed 7 = .ok (.iload_n 1, 1) := by decide +kernel
theorem dX12_mixed_8 : decode cX12_mixed 8 = .ok (.iconst (-1), 1) := by decide +kernel
theorem dX12_mixed_9 : decode cX12_mixed 9 = .ok (.if_icmp .ge 5, 3) := by decide +kernel
theorem dX12_mixed_12 : decode cX12_mixed 12 = .ok (.iconst (-1), 1) := by decide +kernel
theorem dX12_mixed_13 : decode cX12_mixed 13 = .ok (.ireturn, 1) := by decide +kernel
theorem dX12_mixed_14 : decode cX12_mixed 14 = .ok (.iconst 0, 1) := by decide +kernel
theorem dX12_mixed_15 : decode cX12_mixed 15 = .ok (.istore_n 2, 1) := by decide +kernel
theorem dX12_mixed_16 : decode cX12_mixed 16 = .ok (.iconst 0, 1) := by decide +kernel
theorem dX12_mixed_17 : decode cX12_mixed 17 = .ok (.istore_n 3, 1) := by decide +kernel
theorem dX12_mixed_18 : decode cX12_mixed 18 = .ok (.iload_n 3, 1) := by decide +kernel
theorem dX12_mixed_19 : decode cX12_mixed 19 = .ok (.bipush 16, 2) := by decide +kernel
theorem dX12_mixed_21 : decode cX12_mixed 21 = .ok (.if_icmp .ge 95, 3) := by decide +kernel
theorem dX12_mixed_24 : decode cX12_mixed 24 = .ok (.iconst 0, 1) := by decide +kernel
theorem dX12_mixed_25 : decode cX12_mixed 25 = .ok (.istore 4, 2) := by decide +kernel
theorem dX12_mixed_27 : decode cX12_mixed 27 = .ok (.iconst 0, 1) := by decide +kernel
theorem dX12_mixed_28 : decode cX12_mixed 28 = .ok (.istore 5, 2) := by decide +kernel
theorem dX12_mixed_30 : decode cX12_mixed 30 = .ok (.iload 5, 2) := by decide +kernel
theorem dX12_mixed_32 : decode cX12_mixed 32 = .ok (.aload_n 0, 1) := by decide +kernel
theorem dX12_mixed_33 : decode cX12_mixed 33 = .ok (.getfield 306, 3) := by decide +kernel
theorem dX12_mixed_36 : decode cX12_mixed 36 = .ok (.if_icmp .ge 49, 3) := by decide +kernel
theorem dX12_mixed_39 : decode cX12_mixed 39 = .ok (.iload 4, 2) := by decide +kernel
theorem dX12_mixed_41 : decode cX12_mixed 41 = .ok (.aload_n 0, 1) := by decide +kernel
theorem dX12_mixed_42 : decode cX12_mixed 42 = .ok (.iload 5, 2) := by decide +kernel
theorem dX12_mixed_44 : decode cX12_mixed 44 = .ok (.iconst 0, 1) := by decide +kernel
theorem dX12_mixed_45 : decode cX12_mixed 45 = .ok (.invokevirtual 343, 3) := by decide +kernel
theorem dX12_mixed_48 : decode cX12_mixed 48 = .ok (.ifCond .le 27, 3) := by decide +kernel
theorem dX12_mixed_51 : decode cX12_mixed 51 = .ok (.iconst 2, 1) := by decide +kernel
theorem dX12_mixed_52 : decode cX12_mixed 52 = .ok (.aload_n 0, 1) := by decide +kernel
theorem dX12_mixed_53 : decode cX12_mixed 53 = .ok (.iload 5, 2) := by decide +kernel
theorem dX12_mixed_55 : decode cX12_mixed 55 = .ok (.invokevirtual 366, 3) := by decide +kernel
theorem dX12_mixed_58 : decode cX12_mixed 58 = .ok (.aload_n 0, 1) := by decide +kernel
theorem dX12_mixed_59 : decode cX12_mixed 59 = .ok (.iload 5, 2) := by decide +kernel
theorem dX12_mixed_61 : decode cX12_mixed 61 = .ok (.invokevirtual 369, 3) := by decide +kernel
theorem dX12_mixed_64 : decode cX12_mixed 64 = .ok (.invokestatic 431, 3) := by decide +kernel
theorem dX12_mixed_67 : decode cX12_mixed 67 = .ok (.iload_n 3, 1) := by decide +kernel
theorem dX12_mixed_68 : decode cX12_mixed 68 = .ok (.if_icmp .ne 7, 3) := by decide +kernel
theorem dX12_mixed_71 : decode cX12_mixed 71 = .ok (.iconst 1, 1) := by decide +kernel
theorem dX12_mixed_72 : decode cX12_mixed 72 = .ok (.goto 4, 3) := by decide +kernel
theorem dX12_mixed_75 : decode cX12_mixed 75 = .ok (.iconst 0, 1) := by decide +kernel
theorem dX12_mixed_76 : decode cX12_mixed 76 = .ok (.iadd, 1) := by decide +kernel
theorem dX12_mixed_77 : decode cX12_mixed 77 = .ok (.istore 4, 2) := by decide +kernel
theorem dX12_mixed_79 : decode cX12_mixed 79 = .ok (.iinc 5 1, 3) := by decide +kernel
theorem dX12_mixed_82 : decode cX12_mixed 82 = .ok (.goto (-52), 3) := by decide +kernel
theorem dX12_mixed_85 : decode cX12_mixed 85 = .ok (.iload 4, 2) := by decide +kernel
theorem dX12_mixed_87 : decode cX12_mixed 87 = .ok (.iconst 1, 1) := by decide +kernel
theorem dX12_mixed_88 : decode cX12_mixed 88 = .ok (.if_icmp .le 22, 3) := by decide +kernel
theorem dX12_mixed_91 : decode cX12_mixed 91 = .ok (.iload_n 2, 1) := by decide +kernel
theorem dX12_mixed_92 : decode cX12_mixed 92 = .ok (.iload_n 1, 1) := by decide +kernel
theorem dX12_mixed_93 : decode cX12_mixed 93 = .ok (.if_icmp .ne 14, 3) := by decide +kernel
theorem dX12_mixed_96 : decode cX12_mixed 96 = .ok (.bipush 10, 2) := by decide +kernel
theorem dX12_mixed_98 : decode cX12_mixed 98 = .ok (.iload_n 3, 1) := by decide +kernel
theorem dX12_mixed_99 : decode cX12_mixed 99 = .ok (.iconst 4, 1) := by decide +kernel
theorem dX12_mixed_100 : decode cX12_mixed 100 = .ok (.idiv, 1) := by decide +kernel
theorem dX12_mixed_101 : decode cX12_mixed 101 = .ok (.imul, 1) := by decide +kernel
theorem dX12_mixed_102 : decode cX12_mixed 102 = .ok (.iload_n 3, 1) := by decide +kernel
theorem dX12_mixed_103 : decode cX12_mixed 103 = .ok (.iconst 4, 1) := by decide +kernel
theorem dX12_mixed_104 : decode cX12_mixed 104 = .ok (.irem, 1) := by decide +kernel
theorem dX12_mixed_105 : decode cX12_mixed 105 = .ok (.iadd, 1) := by decide +kernel
theorem dX12_mixed_106 : decode cX12_mixed 106 = .ok (.ireturn, 1) := by decide +kernel
theorem dX12_mixed_107 : decode cX12_mixed 107 = .ok (.iinc 2 1, 3) := by decide +kernel
theorem dX12_mixed_110 : decode cX12_mixed 110 = .ok (.iinc 3 1, 3) := by decide +kernel
theorem dX12_mixed_113 : decode cX12_mixed 113 = .ok (.goto (-95), 3) := by decide +kernel
theorem dX12_mixed_116 : decode cX12_mixed 116 = .ok (.iload_n 1, 1) := by decide +kernel
theorem dX12_mixed_117 : decode cX12_mixed 117 = .ok (.iconst (-1), 1) := by decide +kernel
theorem dX12_mixed_118 : decode cX12_mixed 118 = .ok (.if_icmp .ne 7, 3) := by decide +kernel
theorem dX12_mixed_121 : decode cX12_mixed 121 = .ok (.iload_n 2, 1) := by decide +kernel
theorem dX12_mixed_122 : decode cX12_mixed 122 = .ok (.goto 4, 3) := by decide +kernel
theorem dX12_mixed_125 : decode cX12_mixed 125 = .ok (.iconst (-1), 1) := by decide +kernel
theorem dX12_mixed_126 : decode cX12_mixed 126 = .ok (.ireturn, 1) := by decide +kernel
theorem dX12_partsThere_0 : decode cX12_partsThere 0 = .ok (.aload_n 1, 1) := by decide +kernel
theorem dX12_partsThere_1 : decode cX12_partsThere 1 = .ok (.aload_n 0, 1) := by decide +kernel
theorem dX12_partsThere_2 : decode cX12_partsThere 2 = .ok (.iload_n 3, 1) := by decide +kernel
theorem dX12_partsThere_3 : decode cX12_partsThere 3 = .ok (.invokevirtual 366, 3) := by decide +kernel
theorem dX12_partsThere_6 : decode cX12_partsThere 6 = .ok (.iaload, 1) := by decide +kernel
theorem dX12_partsThere_7 : decode cX12_partsThere 7 = .ok (.istore 4, 2) := by decide +kernel
theorem dX12_partsThere_9 : decode cX12_partsThere 9 = .ok (.bipush 16, 2) := by decide +kernel
theorem dX12_partsThere_11 : decode cX12_partsThere 11 = .ok (.iload_n 2, 1) := by decide +kernel
theorem dX12_partsThere_12 : decode cX12_partsThere 12 = .ok (.imul, 1) := by decide +kernel
theorem dX12_partsThere_13 : decode cX12_partsThere 13 = .ok (.iconst 4, 1) := by decide +kernel
theorem dX12_partsThere_14 : decode cX12_partsThere 14 = .ok (.aload_n 0, 1) := by decide +kernel
theorem dX12_partsThere_15 : decode cX12_partsThere 15 = .ok (.iload_n 3, 1) := by decide +kernel
theorem dX12_partsThere_16 : decode cX12_partsThere 16 = .ok (.invokevirtual 369, 3) := by decide +kernel
theorem dX12_partsThere_19 : decode cX12_partsThere 19 = .ok (.imul, 1) := by decide +kernel
theorem dX12_partsThere_20 : decode cX12_partsThere 20 = .ok (.iadd, 1) := by decide +kernel
theorem dX12_partsThere_21 : decode cX12_partsThere 21 = .ok (.istore 5, 2) := by decide +kernel
theorem dX12_partsThere_23 : decode cX12_partsThere 23 = .ok (.iload 4, 2) := by decide +kernel
theorem dX12_partsThere_25 : decode cX12_partsThere 25 = .ok (.ifCond .ne 7, 3) := by decide +kernel
theorem dX12_partsThere_28 : decode cX12_partsThere 28 = .ok (.iconst 0, 1) := by decide +kernel
theorem dX12_partsThere_29 : decode cX12_partsThere 29 = .ok (.goto 7, 3) := by decide +kernel
theorem dX12_partsThere_32 : decode cX12_partsThere 32 = .ok (.aload_n 0, 1) := by decide +kernel
theorem dX12_partsThere_33 : decode cX12_partsThere 33 = .ok (.getfield 312, 3) := by decide +kernel
theorem dX12_partsThere_36 : decode cX12_partsThere 36 = .ok (.istore 6, 2) := by decide +kernel
theorem dX12_partsThere_38 : decode cX12_partsThere 38 = .ok (.aload_n 0, 1) := by decide +kernel
theorem dX12_partsThere_39 : decode cX12_partsThere 39 = .ok (.getfield 80, 3) := by decide +kernel
theorem dX12_partsThere_42 : decode cX12_partsThere 42 = .ok (.iload 5, 2) := by decide +kernel
theorem dX12_partsThere_44 : decode cX12_partsThere 44 = .ok (.iload 4, 2) := by decide +kernel
theorem dX12_partsThere_46 : decode cX12_partsThere 46 = .ok (.iadd, 1) := by decide +kernel
theorem dX12_partsThere_47 : decode cX12_partsThere 47 = .ok (.iaload, 1) := by decide +kernel
theorem dX12_partsThere_48 : decode cX12_partsThere 48 = .ok (.iload_n 3, 1) := by decide +kernel
theorem dX12_partsThere_49 : decode cX12_partsThere 49 = .ok (.if_icmp .ne 11, 3) := by decide +kernel
theorem dX12_partsThere_52 : decode cX12_partsThere 52 = .ok (.bipush 100, 2) := by decide +kernel
theorem dX12_partsThere_54 : decode cX12_partsThere 54 = .ok (.iload 6, 2) := by decide +kernel
theorem dX12_partsThere_56 : decode cX12_partsThere 56 = .ok (.isub, 1) := by decide +kernel
theorem dX12_partsThere_57 : decode cX12_partsThere 57 = .ok (.goto 4, 3) := by decide +kernel
theorem dX12_partsThere_60 : decode cX12_partsThere 60 = .ok (.iconst 0, 1) := by decide +kernel
theorem dX12_partsThere_61 : decode cX12_partsThere 61 = .ok (.aload_n 0, 1) := by decide +kernel
theorem dX12_partsThere_62 : decode cX12_partsThere 62 = .ok (.getfield 80, 3) := by decide +kernel
theorem dX12_partsThere_65 : decode cX12_partsThere 65 = .ok (.iload 5, 2) := by decide +kernel
theorem dX12_partsThere_67 : decode cX12_partsThere 67 = .ok (.iaload, 1) := by decide +kernel
theorem dX12_partsThere_68 : decode cX12_partsThere 68 = .ok (.iload_n 3, 1) := by decide +kernel
theorem dX12_partsThere_69 : decode cX12_partsThere 69 = .ok (.if_icmp .ne 8, 3) := by decide +kernel
theorem dX12_partsThere_72 : decode cX12_partsThere 72 = .ok (.iload 6, 2) := by decide +kernel
theorem dX12_partsThere_74 : decode cX12_partsThere 74 = .ok (.goto 4, 3) := by decide +kernel
theorem dX12_partsThere_77 : decode cX12_partsThere 77 = .ok (.iconst 0, 1) := by decide +kernel
theorem dX12_partsThere_78 : decode cX12_partsThere 78 = .ok (.iadd, 1) := by decide +kernel
theorem dX12_partsThere_79 : decode cX12_partsThere 79 = .ok (.ireturn, 1) := by decide +kernel
theorem dX12_gainOf_0 : decode cX12_gainOf 0 = .ok (.aload_n 0, 1) := by decide +kernel
theorem dX12_gainOf_1 : decode cX12_gainOf 1 = .ok (.getfield 77, 3) := by decide +kernel
theorem dX12_gainOf_4 : decode cX12_gainOf 4 = .ok (.iload_n 1, 1) := by decide +kernel
theorem dX12_gainOf_5 : decode cX12_gainOf 5 = .ok (.iaload, 1) := by decide +kernel
theorem dX12_gainOf_6 : decode cX12_gainOf 6 = .ok (.iconst 4, 1) := by decide +kernel
theorem dX12_gainOf_7 : decode cX12_gainOf 7 = .ok (.aload_n 0, 1) := by decide +kernel
theorem dX12_gainOf_8 : decode cX12_gainOf 8 = .ok (.getfield 100, 3) := by decide +kernel
theorem dX12_gainOf_11 : decode cX12_gainOf 11 = .ok (.invokestatic 359, 3) := by decide +kernel
theorem dX12_gainOf_14 : decode cX12_gainOf 14 = .ok (.pop, 1) := by decide +kernel
theorem dX12_gainOf_15 : decode cX12_gainOf 15 = .ok (.aload_n 0, 1) := by decide +kernel
theorem dX12_gainOf_16 : decode cX12_gainOf 16 = .ok (.getfield 77, 3) := by decide +kernel
theorem dX12_gainOf_19 : decode cX12_gainOf 19 = .ok (.iload_n 3, 1) := by decide +kernel
theorem dX12_gainOf_20 : decode cX12_gainOf 20 = .ok (.iaload, 1) := by decide +kernel
theorem dX12_gainOf_21 : decode cX12_gainOf 21 = .ok (.iconst 4, 1) := by decide +kernel
theorem dX12_gainOf_22 : decode cX12_gainOf 22 = .ok (.aload_n 0, 1) := by decide +kernel
theorem dX12_gainOf_23 : decode cX12_gainOf 23 = .ok (.getfield 103, 3) := by decide +kernel
theorem dX12_gainOf_26 : decode cX12_gainOf 26 = .ok (.invokestatic 359, 3) := by decide +kernel
theorem dX12_gainOf_29 : decode cX12_gainOf 29 = .ok (.pop, 1) := by decide +kernel
theorem dX12_gainOf_30 : decode cX12_gainOf 30 = .ok (.lconst 0, 1) := by decide +kernel
theorem dX12_gainOf_31 : decode cX12_gainOf 31 = .ok (.lstore 5, 2) := by decide +kernel
theorem dX12_gainOf_33 : decode cX12_gainOf 33 = .ok (.iconst 0, 1) := by decide +kernel
theorem dX12_gainOf_34 : decode cX12_gainOf 34 = .ok (.istore 7, 2) := by decide +kernel
theorem dX12_gainOf_36 : decode cX12_gainOf 36 = .ok (.iload 7, 2) := by decide +kernel
theorem dX12_gainOf_38 : decode cX12_gainOf 38 = .ok (.aload_n 0, 1) := by decide +kernel
theorem dX12_gainOf_39 : decode cX12_gainOf 39 = .ok (.getfield 306, 3) := by decide +kernel
theorem dX12_gainOf_42 : decode cX12_gainOf 42 = .ok (.if_icmp .ge 79, 3) := by decide +kernel
theorem dX12_gainOf_45 : decode cX12_gainOf 45 = .ok (.aload_n 0, 1) := by decide +kernel
theorem dX12_gainOf_46 : decode cX12_gainOf 46 = .ok (.aload_n 0, 1) := by decide +kernel
theorem dX12_gainOf_47 : decode cX12_gainOf 47 = .ok (.getfield 100, 3) := by decide +kernel
theorem dX12_gainOf_50 : decode cX12_gainOf 50 = .ok (.iload_n 2, 1) := by decide +kernel
theorem dX12_gainOf_51 : decode cX12_gainOf 51 = .ok (.iload 7, 2) := by decide +kernel
theorem dX12_gainOf_53 : decode cX12_gainOf 53 = .ok (.invokevirtual 468, 3) := by decide +kernel
theorem dX12_gainOf_56 : decode cX12_gainOf 56 = .ok (.istore 8, 2) := by decide +kernel
theorem dX12_gainOf_58 : decode cX12_gainOf 58 = .ok (.aload_n 0, 1) := by decide +kernel
theorem dX12_gainOf_59 : decode cX12_gainOf 59 = .ok (.aload_n 0, 1) := by decide +kernel
theorem dX12_gainOf_60 : decode cX12_gainOf 60 = .ok (.getfield 103, 3) := by decide +kernel
theorem dX12_gainOf_63 : decode cX12_gainOf 63 = .ok (.iload 4, 2) := by decide +kernel
theorem dX12_gainOf_65 : decode cX12_gainOf 65 = .ok (.iload 7, 2) := by decide +kernel
theorem dX12_gainOf_67 : decode cX12_gainOf 67 = .ok (.invokevirtual 468, 3) := by decide +kernel
theorem dX12_gainOf_70 : decode cX12_gainOf 70 = .ok (.istore 9, 2) := by decide +kernel
theorem dX12_gainOf_72 : decode cX12_gainOf 72 = .ok (.aload_n 0, 1) := by decide +kernel
theorem dX12_gainOf_73 : decode cX12_gainOf 73 = .ok (.iload 7, 2) := by decide +kernel
theorem dX12_gainOf_75 : decode cX12_gainOf 75 = .ok (.invokevirtual 356, 3) := by decide +kernel
theorem dX12_gainOf_78 : decode cX12_gainOf 78 = .ok (.istore 10, 2) := by decide +kernel
theorem dX12_gainOf_80 : decode cX12_gainOf 80 = .ok (.lload 5, 2) := by decide +kernel
theorem dX12_gainOf_82 : decode cX12_gainOf 82 = .ok (.aload_n 0, 1) := by decide +kernel
theorem dX12_gainOf_83 : decode cX12_gainOf 83 = .ok (.iload 7, 2) := by decide +kernel
theorem dX12_gainOf_85 : decode cX12_gainOf 85 = .ok (.iconst 0, 1) := by decide +kernel
theorem dX12_gainOf_86 : decode cX12_gainOf 86 = .ok (.invokevirtual 343, 3) := by decide +kernel
theorem dX12_gainOf_89 : decode cX12_gainOf 89 = .ok (.i2l, 1) := by decide +kernel
theorem dX12_gainOf_90 : decode cX12_gainOf 90 = .ok (.iload 8, 2) := by decide +kernel
theorem dX12_gainOf_92 : decode cX12_gainOf 92 = .ok (.i2l, 1) := by decide +kernel
theorem dX12_gainOf_93 : decode cX12_gainOf 93 = .ok (.lmul, 1) := by decide +kernel
theorem dX12_gainOf_94 : decode cX12_gainOf 94 = .ok (.iload 9, 2) := by decide +kernel
theorem dX12_gainOf_96 : decode cX12_gainOf 96 = .ok (.iload 10, 2) := by decide +kernel
theorem dX12_gainOf_98 : decode cX12_gainOf 98 = .ok (.iconst 2, 1) := by decide +kernel
theorem dX12_gainOf_99 : decode cX12_gainOf 99 = .ok (.idiv, 1) := by decide +kernel
theorem dX12_gainOf_100 : decode cX12_gainOf 100 = .ok (.imul, 1) := by decide +kernel
theorem dX12_gainOf_101 : decode cX12_gainOf 101 = .ok (.bipush 100, 2) := by decide +kernel
theorem dX12_gainOf_103 : decode cX12_gainOf 103 = .ok (.iload 9, 2) := by decide +kernel
theorem dX12_gainOf_105 : decode cX12_gainOf 105 = .ok (.isub, 1) := by decide +kernel
theorem dX12_gainOf_106 : decode cX12_gainOf 106 = .ok (.iload 10, 2) := by decide +kernel
theorem dX12_gainOf_108 : decode cX12_gainOf 108 = .ok (.imul, 1) := by decide +kernel
theorem dX12_gainOf_109 : decode cX12_gainOf 109 = .ok (.iadd, 1) := by decide +kernel
theorem dX12_gainOf_110 : decode cX12_gainOf 110 = .ok (.i2l, 1) := by decide +kernel
theorem dX12_gainOf_111 : decode cX12_gainOf 111 = .ok (.lmul, 1) := by decide +kernel
theorem dX12_gainOf_112 : decode cX12_gainOf 112 = .ok (.ladd, 1) := by decide +kernel
theorem dX12_gainOf_113 : decode cX12_gainOf 113 = .ok (.lstore 5, 2) := by decide +kernel
theorem dX12_gainOf_115 : decode cX12_gainOf 115 = .ok (.iinc 7 1, 3) := by decide +kernel
theorem dX12_gainOf_118 : decode cX12_gainOf 118 = .ok (.goto (-82), 3) := by decide +kernel
theorem dX12_gainOf_121 : decode cX12_gainOf 121 = .ok (.lload 5, 2) := by decide +kernel
theorem dX12_gainOf_123 : decode cX12_gainOf 123 = .ok (.lreturn, 1) := by decide +kernel
theorem dX12_isBoat_0 : decode cX12_isBoat 0 = .ok (.iload_n 1, 1) := by decide +kernel
theorem dX12_isBoat_1 : decode cX12_isBoat 1 = .ok (.ifCond .lt 22, 3) := by decide +kernel
theorem dX12_isBoat_4 : decode cX12_isBoat 4 = .ok (.aload_n 0, 1) := by decide +kernel
theorem dX12_isBoat_5 : decode cX12_isBoat 5 = .ok (.iload_n 1, 1) := by decide +kernel
theorem dX12_isBoat_6 : decode cX12_isBoat 6 = .ok (.bipush 10, 2) := by decide +kernel
theorem dX12_isBoat_8 : decode cX12_isBoat 8 = .ok (.idiv, 1) := by decide +kernel
theorem dX12_isBoat_9 : decode cX12_isBoat 9 = .ok (.iload_n 1, 1) := by decide +kernel
theorem dX12_isBoat_10 : decode cX12_isBoat 10 = .ok (.bipush 10, 2) := by decide +kernel
theorem dX12_isBoat_12 : decode cX12_isBoat 12 = .ok (.irem, 1) := by decide +kernel
theorem dX12_isBoat_13 : decode cX12_isBoat 13 = .ok (.invokevirtual 422, 3) := by decide +kernel
theorem dX12_isBoat_16 : decode cX12_isBoat 16 = .ok (.ifCond .eq 7, 3) := by decide +kernel
theorem dX12_isBoat_19 : decode cX12_isBoat 19 = .ok (.iconst 1, 1) := by decide +kernel
theorem dX12_isBoat_20 : decode cX12_isBoat 20 = .ok (.goto 4, 3) := by decide +kernel
theorem dX12_isBoat_23 : decode cX12_isBoat 23 = .ok (.iconst 0, 1) := by decide +kernel
theorem dX12_isBoat_24 : decode cX12_isBoat 24 = .ok (.ireturn, 1) := by decide +kernel
theorem dX12_crossed_0 : decode cX12_crossed 0 = .ok (.aload_n 0, 1) := by decide +kernel
theorem dX12_crossed_1 : decode cX12_crossed 1 = .ok (.getfield 306, 3) := by decide +kernel
theorem dX12_crossed_4 : decode cX12_crossed 4 = .ok (.ifCond .eq 28, 3) := by decide +kernel
theorem dX12_crossed_7 : decode cX12_crossed 7 = .ok (.aload_n 0, 1) := by decide +kernel
theorem dX12_crossed_8 : decode cX12_crossed 8 = .ok (.iload_n 1, 1) := by decide +kernel
theorem dX12_crossed_9 : decode cX12_crossed 9 = .ok (.invokevirtual 472, 3) := by decide +kernel
theorem dX12_crossed_12 : decode cX12_crossed 12 = .ok (.ifCond .eq 20, 3) := by decide +kernel
theorem dX12_crossed_15 : decode cX12_crossed 15 = .ok (.aload_n 0, 1) := by decide +kernel
theorem dX12_crossed_16 : decode cX12_crossed 16 = .ok (.iload_n 2, 1) := by decide +kernel
theorem dX12_crossed_17 : decode cX12_crossed 17 = .ok (.invokevirtual 472, 3) := by decide +kernel
theorem dX12_crossed_20 : decode cX12_crossed 20 = .ok (.ifCond .eq 12, 3) := by decide +kernel
theorem dX12_crossed_23 : decode cX12_crossed 23 = .ok (.iload_n 3, 1) := by decide +kernel
theorem dX12_crossed_24 : decode cX12_crossed 24 = .ok (.iconst 0, 1) := by decide +kernel
theorem dX12_crossed_25 : decode cX12_crossed 25 = .ok (.iconst 1, 1) := by decide +kernel
theorem dX12_crossed_26 : decode cX12_crossed 26 = .ok (.invokestatic 269, 3) := by decide +kernel
theorem dX12_crossed_29 : decode cX12_crossed 29 = .ok (.ifCond .ne 7, 3) := by decide +kernel
theorem dX12_crossed_32 : decode cX12_crossed 32 = .ok (.ldc2_w 449, 3) := by decide +kernel
theorem dX12_crossed_35 : decode cX12_crossed 35 = .ok (.lreturn, 1) := by decide +kernel
theorem dX12_crossed_36 : decode cX12_crossed 36 = .ok (.aload_n 0, 1) := by decide +kernel
theorem dX12_crossed_37 : decode cX12_crossed 37 = .ok (.iload_n 1, 1) := by decide +kernel
theorem dX12_crossed_38 : decode cX12_crossed 38 = .ok (.bipush 10, 2) := by decide +kernel
theorem dX12_crossed_40 : decode cX12_crossed 40 = .ok (.idiv, 1) := by decide +kernel
theorem dX12_crossed_41 : decode cX12_crossed 41 = .ok (.iload_n 1, 1) := by decide +kernel
theorem dX12_crossed_42 : decode cX12_crossed 42 = .ok (.bipush 10, 2) := by decide +kernel
theorem dX12_crossed_44 : decode cX12_crossed 44 = .ok (.irem, 1) := by decide +kernel
theorem dX12_crossed_45 : decode cX12_crossed 45 = .ok (.iload_n 2, 1) := by decide +kernel
theorem dX12_crossed_46 : decode cX12_crossed 46 = .ok (.bipush 10, 2) := by decide +kernel
theorem dX12_crossed_48 : decode cX12_crossed 48 = .ok (.idiv, 1) := by decide +kernel
theorem dX12_crossed_49 : decode cX12_crossed 49 = .ok (.iload_n 2, 1) := by decide +kernel
theorem dX12_crossed_50 : decode cX12_crossed 50 = .ok (.bipush 10, 2) := by decide +kernel
theorem dX12_crossed_52 : decode cX12_crossed 52 = .ok (.irem, 1) := by decide +kernel
theorem dX12_crossed_53 : decode cX12_crossed 53 = .ok (.invokevirtual 475, 3) := by decide +kernel
theorem dX12_crossed_56 : decode cX12_crossed 56 = .ok (.aload_n 0, 1) := by decide +kernel
theorem dX12_crossed_57 : decode cX12_crossed 57 = .ok (.iconst 2, 1) := by decide +kernel
theorem dX12_crossed_58 : decode cX12_crossed 58 = .ok (.invokevirtual 455, 3) := by decide +kernel
theorem dX12_crossed_61 : decode cX12_crossed 61 = .ok (.iload_n 3, 1) := by decide +kernel
theorem dX12_crossed_62 : decode cX12_crossed 62 = .ok (.invokestatic 459, 3) := by decide +kernel
theorem dX12_crossed_65 : decode cX12_crossed 65 = .ok (.lreturn, 1) := by decide +kernel
theorem dX12_isRest_0 : decode cX12_isRest 0 = .ok (.iconst 0, 1) := by decide +kernel
theorem dX12_isRest_1 : decode cX12_isRest 1 = .ok (.istore 5, 2) := by decide +kernel
theorem dX12_isRest_3 : decode cX12_isRest 3 = .ok (.iload 5, 2) := by decide +kernel
theorem dX12_isRest_5 : decode cX12_isRest 5 = .ok (.iconst 4, 1) := by decide +kernel
theorem dX12_isRest_6 : decode cX12_isRest 6 = .ok (.if_icmp .ge 66, 3) := by decide +kernel
theorem dX12_isRest_9 : decode cX12_isRest 9 = .ok (.aload_n 0, 1) := by decide +kernel
theorem dX12_isRest_10 : decode cX12_isRest 10 = .ok (.getfield 83, 3) := by decide +kernel
theorem dX12_isRest_13 : decode cX12_isRest 13 = .ok (.iload 5, 2) := by decide +kernel
theorem dX12_isRest_15 : decode cX12_isRest 15 = .ok (.baload, 1) := by decide +kernel
theorem dX12_isRest_16 : decode cX12_isRest 16 = .ok (.ifCond .eq 50, 3) := by decide +kernel
theorem dX12_isRest_19 : decode cX12_isRest 19 = .ok (.aload_n 0, 1) := by decide +kernel
theorem dX12_isRest_20 : decode cX12_isRest 20 = .ok (.iload_n 1, 1) := by decide +kernel
theorem dX12_isRest_21 : decode cX12_isRest 21 = .ok (.iload 5, 2) := by decide +kernel
theorem dX12_isRest_23 : decode cX12_isRest 23 = .ok (.iload_n 2, 1) := by decide +kernel
theorem dX12_isRest_24 : decode cX12_isRest 24 = .ok (.iload 4, 2) := by decide +kernel
theorem dX12_isRest_26 : decode cX12_isRest 26 = .ok (.invokevirtual 475, 3) := by decide +kernel
theorem dX12_isRest_29 : decode cX12_isRest 29 = .ok (.aload_n 0, 1) := by decide +kernel
theorem dX12_isRest_30 : decode cX12_isRest 30 = .ok (.iload_n 1, 1) := by decide +kernel
theorem dX12_isRest_31 : decode cX12_isRest 31 = .ok (.iload_n 3, 1) := by decide +kernel
theorem dX12_isRest_32 : decode cX12_isRest 32 = .ok (.iload_n 2, 1) := by decide +kernel
theorem dX12_isRest_33 : decode cX12_isRest 33 = .ok (.iload 4, 2) := by decide +kernel
theorem dX12_isRest_35 : decode cX12_isRest 35 = .ok (.invokevirtual 475, 3) := by decide +kernel
theorem dX12_isRest_38 : decode cX12_isRest 38 = .ok (.lcmp, 1) := by decide +kernel
theorem dX12_isRest_39 : decode cX12_isRest 39 = .ok (.ifCond .gt 25, 3) := by decide +kernel
theorem dX12_isRest_42 : decode cX12_isRest 42 = .ok (.aload_n 0, 1) := by decide +kernel
theorem dX12_isRest_43 : decode cX12_isRest 43 = .ok (.iload_n 2, 1) := by decide +kernel
theorem dX12_isRest_44 : decode cX12_isRest 44 = .ok (.iload 5, 2) := by decide +kernel
theorem dX12_isRest_46 : decode cX12_isRest 46 = .ok (.iload_n 1, 1) := by decide +kernel
theorem dX12_isRest_47 : decode cX12_isRest 47 = .ok (.iload_n 3, 1) := by decide +kernel
theorem dX12_isRest_48 : decode cX12_isRest 48 = .ok (.invokevirtual 475, 3) := by decide +kernel
theorem dX12_isRest_51 : decode cX12_isRest 51 = .ok (.aload_n 0, 1) := by decide +kernel
theorem dX12_isRest_52 : decode cX12_isRest 52 = .ok (.iload_n 2, 1) := by decide +kernel
theorem dX12_isRest_53 : decode cX12_isRest 53 = .ok (.iload 4, 2) := by decide +kernel
theorem dX12_isRest_55 : decode cX12_isRest 55 = .ok (.iload_n 1, 1) := by decide +kernel
theorem dX12_isRest_56 : decode cX12_isRest 56 = .ok (.iload_n 3, 1) := by decide +kernel
theorem dX12_isRest_57 : decode cX12_isRest 57 = .ok (.invokevirtual 475, 3) := by decide +kernel
theorem dX12_isRest_60 : decode cX12_isRest 60 = .ok (.lcmp, 1) := by decide +kernel
theorem dX12_isRest_61 : decode cX12_isRest 61 = .ok (.ifCond .le 5, 3) := by decide +kernel
theorem dX12_isRest_64 : decode cX12_isRest 64 = .ok (.iconst 0, 1) := by decide +kernel
theorem dX12_isRest_65 : decode cX12_isRest 65 = .ok (.ireturn, 1) := by decide +kernel
theorem dX12_isRest_66 : decode cX12_isRest 66 = .ok (.iinc 5 1, 3) := by decide +kernel
theorem dX12_isRest_69 : decode cX12_isRest 69 = .ok (.goto (-66), 3) := by decide +kernel
theorem dX12_isRest_72 : decode cX12_isRest 72 = .ok (.iconst 1, 1) := by decide +kernel
theorem dX12_isRest_73 : decode cX12_isRest 73 = .ok (.ireturn, 1) := by decide +kernel
theorem dX12_hasTugs_0 : decode cX12_hasTugs 0 = .ok (.iload_n 1, 1) := by decide +kernel
theorem dX12_hasTugs_1 : decode cX12_hasTugs 1 = .ok (.iconst 0, 1) := by decide +kernel
theorem dX12_hasTugs_2 : decode cX12_hasTugs 2 = .ok (.iconst 3, 1) := by decide +kernel
theorem dX12_hasTugs_3 : decode cX12_hasTugs 3 = .ok (.invokestatic 269, 3) := by decide +kernel
theorem dX12_hasTugs_6 : decode cX12_hasTugs 6 = .ok (.ifCond .eq 17, 3) := by decide +kernel
theorem dX12_hasTugs_9 : decode cX12_hasTugs 9 = .ok (.aload_n 0, 1) := by decide +kernel
theorem dX12_hasTugs_10 : decode cX12_hasTugs 10 = .ok (.getfield 77, 3) := by decide +kernel
theorem dX12_hasTugs_13 : decode cX12_hasTugs 13 = .ok (.iload_n 1, 1) := by decide +kernel
theorem dX12_hasTugs_14 : decode cX12_hasTugs 14 = .ok (.iaload, 1) := by decide +kernel
theorem dX12_hasTugs_15 : decode cX12_hasTugs 15 = .ok (.iconst (-1), 1) := by decide +kernel
theorem dX12_hasTugs_16 : decode cX12_hasTugs 16 = .ok (.if_icmp .eq 7, 3) := by decide +kernel
theorem dX12_hasTugs_19 : decode cX12_hasTugs 19 = .ok (.iconst 1, 1) := by decide +kernel
theorem dX12_hasTugs_20 : decode cX12_hasTugs 20 = .ok (.goto 4, 3) := by decide +kernel
theorem dX12_hasTugs_23 : decode cX12_hasTugs 23 = .ok (.iconst 0, 1) := by decide +kernel
theorem dX12_hasTugs_24 : decode cX12_hasTugs 24 = .ok (.ireturn, 1) := by decide +kernel
theorem dX12_rests_0 : decode cX12_rests 0 = .ok (.aload_n 0, 1) := by decide +kernel
theorem dX12_rests_1 : decode cX12_rests 1 = .ok (.getfield 306, 3) := by decide +kernel
theorem dX12_rests_4 : decode cX12_rests 4 = .ok (.ifCond .eq 24, 3) := by decide +kernel
theorem dX12_rests_7 : decode cX12_rests 7 = .ok (.aload_n 0, 1) := by decide +kernel
theorem dX12_rests_8 : decode cX12_rests 8 = .ok (.iload_n 1, 1) := by decide +kernel
theorem dX12_rests_9 : decode cX12_rests 9 = .ok (.invokevirtual 479, 3) := by decide +kernel
theorem dX12_rests_12 : decode cX12_rests 12 = .ok (.ifCond .eq 16, 3) := by decide +kernel
theorem dX12_rests_15 : decode cX12_rests 15 = .ok (.aload_n 0, 1) := by decide +kernel
theorem dX12_rests_16 : decode cX12_rests 16 = .ok (.iload_n 2, 1) := by decide +kernel
theorem dX12_rests_17 : decode cX12_rests 17 = .ok (.invokevirtual 479, 3) := by decide +kernel
theorem dX12_rests_20 : decode cX12_rests 20 = .ok (.ifCond .eq 8, 3) := by decide +kernel
theorem dX12_rests_23 : decode cX12_rests 23 = .ok (.iload_n 3, 1) := by decide +kernel
theorem dX12_rests_24 : decode cX12_rests 24 = .ok (.iconst (-1), 1) := by decide +kernel
theorem dX12_rests_25 : decode cX12_rests 25 = .ok (.if_icmp .ge 5, 3) := by decide +kernel
theorem dX12_rests_28 : decode cX12_rests 28 = .ok (.iconst (-1), 1) := by decide +kernel
theorem dX12_rests_29 : decode cX12_rests 29 = .ok (.ireturn, 1) := by decide +kernel
theorem dX12_rests_30 : decode cX12_rests 30 = .ok (.iconst 0, 1) := by decide +kernel
theorem dX12_rests_31 : decode cX12_rests 31 = .ok (.istore 4, 2) := by decide +kernel
theorem dX12_rests_33 : decode cX12_rests 33 = .ok (.iconst 0, 1) := by decide +kernel
theorem dX12_rests_34 : decode cX12_rests 34 = .ok (.istore 5, 2) := by decide +kernel
theorem dX12_rests_36 : decode cX12_rests 36 = .ok (.iload 5, 2) := by decide +kernel
theorem dX12_rests_38 : decode cX12_rests 38 = .ok (.iconst 4, 1) := by decide +kernel
theorem dX12_rests_39 : decode cX12_rests 39 = .ok (.if_icmp .ge 75, 3) := by decide +kernel
theorem dX12_rests_42 : decode cX12_rests 42 = .ok (.iconst 0, 1) := by decide +kernel
theorem dX12_rests_43 : decode cX12_rests 43 = .ok (.istore 6, 2) := by decide +kernel
theorem dX12_rests_45 : decode cX12_rests 45 = .ok (.iload 6, 2) := by decide +kernel
theorem dX12_rests_47 : decode cX12_rests 47 = .ok (.iconst 4, 1) := by decide +kernel
theorem dX12_rests_48 : decode cX12_rests 48 = .ok (.if_icmp .ge 60, 3) := by decide +kernel
theorem dX12_rests_51 : decode cX12_rests 51 = .ok (.aload_n 0, 1) := by decide +kernel
theorem dX12_rests_52 : decode cX12_rests 52 = .ok (.getfield 83, 3) := by decide +kernel
theorem dX12_rests_55 : decode cX12_rests 55 = .ok (.iload 5, 2) := by decide +kernel
theorem dX12_rests_57 : decode cX12_rests 57 = .ok (.baload, 1) := by decide +kernel
theorem dX12_rests_58 : decode cX12_rests 58 = .ok (.ifCond .eq 44, 3) := by decide +kernel
theorem dX12_rests_61 : decode cX12_rests 61 = .ok (.aload_n 0, 1) := by decide +kernel
theorem dX12_rests_62 : decode cX12_rests 62 = .ok (.getfield 83, 3) := by decide +kernel
theorem dX12_rests_65 : decode cX12_rests 65 = .ok (.iload 6, 2) := by decide +kernel
theorem dX12_rests_67 : decode cX12_rests 67 = .ok (.baload, 1) := by decide +kernel
theorem dX12_rests_68 : decode cX12_rests 68 = .ok (.ifCond .eq 34, 3) := by decide +kernel
theorem dX12_rests_71 : decode cX12_rests 71 = .ok (.aload_n 0, 1) := by decide +kernel
theorem dX12_rests_72 : decode cX12_rests 72 = .ok (.iload_n 1, 1) := by decide +kernel
theorem dX12_rests_73 : decode cX12_rests 73 = .ok (.iload_n 2, 1) := by decide +kernel
theorem dX12_rests_74 : decode cX12_rests 74 = .ok (.iload 5, 2) := by decide +kernel
theorem dX12_rests_76 : decode cX12_rests 76 = .ok (.iload 6, 2) := by decide +kernel
theorem dX12_rests_78 : decode cX12_rests 78 = .ok (.invokevirtual 482, 3) := by decide +kernel
theorem dX12_rests_81 : decode cX12_rests 81 = .ok (.ifCond .eq 21, 3) := by decide +kernel
theorem dX12_rests_84 : decode cX12_rests 84 = .ok (.iload 4, 2) := by decide +kernel
theorem dX12_rests_86 : decode cX12_rests 86 = .ok (.iload_n 3, 1) := by decide +kernel
theorem dX12_rests_87 : decode cX12_rests 87 = .ok (.if_icmp .ne 12, 3) := by decide +kernel
theorem dX12_rests_90 : decode cX12_rests 90 = .ok (.bipush 10, 2) := by decide +kernel
theorem dX12_rests_92 : decode cX12_rests 92 = .ok (.iload 5, 2) := by decide +kernel
theorem dX12_rests_94 : decode cX12_rests 94 = .ok (.imul, 1) := by decide +kernel
theorem dX12_rests_95 : decode cX12_rests 95 = .ok (.iload 6, 2) := by decide +kernel
theorem dX12_rests_97 : decode cX12_rests 97 = .ok (.iadd, 1) := by decide +kernel
theorem dX12_rests_98 : decode cX12_rests 98 = .ok (.ireturn, 1) := by decide +kernel
theorem dX12_rests_99 : decode cX12_rests 99 = .ok (.iinc 4 1, 3) := by decide +kernel
theorem dX12_rests_102 : decode cX12_rests 102 = .ok (.iinc 6 1, 3) := by decide +kernel
theorem dX12_rests_105 : decode cX12_rests 105 = .ok (.goto (-60), 3) := by decide +kernel
theorem dX12_rests_108 : decode cX12_rests 108 = .ok (.iinc 5 1, 3) := by decide +kernel
theorem dX12_rests_111 : decode cX12_rests 111 = .ok (.goto (-75), 3) := by decide +kernel
theorem dX12_rests_114 : decode cX12_rests 114 = .ok (.iload_n 3, 1) := by decide +kernel
theorem dX12_rests_115 : decode cX12_rests 115 = .ok (.iconst (-1), 1) := by decide +kernel
theorem dX12_rests_116 : decode cX12_rests 116 = .ok (.if_icmp .ne 8, 3) := by decide +kernel
theorem dX12_rests_119 : decode cX12_rests 119 = .ok (.iload 4, 2) := by decide +kernel
theorem dX12_rests_121 : decode cX12_rests 121 = .ok (.goto 4, 3) := by decide +kernel
theorem dX12_rests_124 : decode cX12_rests 124 = .ok (.iconst (-1), 1) := by decide +kernel
theorem dX12_rests_125 : decode cX12_rests 125 = .ok (.ireturn, 1) := by decide +kernel
theorem dX12_layCouples_0 : decode cX12_layCouples 0 = .ok (.aload_n 0, 1) := by decide +kernel
theorem dX12_layCouples_1 : decode cX12_layCouples 1 = .ok (.getfield 306, 3) := by decide +kernel
theorem dX12_layCouples_4 : decode cX12_layCouples 4 = .ok (.ifCond .eq 16, 3) := by decide +kernel
theorem dX12_layCouples_7 : decode cX12_layCouples 7 = .ok (.iload_n 1, 1) := by decide +kernel
theorem dX12_layCouples_8 : decode cX12_layCouples 8 = .ok (.bipush 10, 2) := by decide +kernel
theorem dX12_layCouples_10 : decode cX12_layCouples 10 = .ok (.aload_n 0, 1) := by decide +kernel
theorem dX12_layCouples_11 : decode cX12_layCouples 11 = .ok (.getfield 106, 3) := by decide +kernel
theorem dX12_layCouples_14 : decode cX12_layCouples 14 = .ok (.invokestatic 359, 3) := by decide +kernel
theorem dX12_layCouples_17 : decode cX12_layCouples 17 = .ok (.ifCond .ne 5, 3) := by decide +kernel
theorem dX12_layCouples_20 : decode cX12_layCouples 20 = .ok (.iconst 0, 1) := by decide +kernel
theorem dX12_layCouples_21 : decode cX12_layCouples 21 = .ok (.ireturn, 1) := by decide +kernel
theorem dX12_layCouples_22 : decode cX12_layCouples 22 = .ok (.iconst 0, 1) := by decide +kernel
theorem dX12_layCouples_23 : decode cX12_layCouples 23 = .ok (.istore_n 2, 1) := by decide +kernel
theorem dX12_layCouples_24 : decode cX12_layCouples 24 = .ok (.iload_n 2, 1) := by decide +kernel
theorem dX12_layCouples_25 : decode cX12_layCouples 25 = .ok (.iconst 4, 1) := by decide +kernel
theorem dX12_layCouples_26 : decode cX12_layCouples 26 = .ok (.if_icmp .ge 16, 3) := by decide +kernel
theorem dX12_layCouples_29 : decode cX12_layCouples 29 = .ok (.aload_n 0, 1) := by decide +kernel
theorem dX12_layCouples_30 : decode cX12_layCouples 30 = .ok (.getfield 109, 3) := by decide +kernel
theorem dX12_layCouples_33 : decode cX12_layCouples 33 = .ok (.iload_n 2, 1) := by decide +kernel
theorem dX12_layCouples_34 : decode cX12_layCouples 34 = .ok (.iconst (-1), 1) := by decide +kernel
theorem dX12_layCouples_35 : decode cX12_layCouples 35 = .ok (.iastore, 1) := by decide +kernel
theorem dX12_layCouples_36 : decode cX12_layCouples 36 = .ok (.iinc 2 1, 3) := by decide +kernel
theorem dX12_layCouples_39 : decode cX12_layCouples 39 = .ok (.goto (-15), 3) := by decide +kernel
theorem dX12_layCouples_42 : decode cX12_layCouples 42 = .ok (.iconst 0, 1) := by decide +kernel
theorem dX12_layCouples_43 : decode cX12_layCouples 43 = .ok (.istore_n 2, 1) := by decide +kernel
theorem dX12_layCouples_44 : decode cX12_layCouples 44 = .ok (.iload_n 2, 1) := by decide +kernel
theorem dX12_layCouples_45 : decode cX12_layCouples 45 = .ok (.iconst 4, 1) := by decide +kernel
theorem dX12_layCouples_46 : decode cX12_layCouples 46 = .ok (.if_icmp .ge 60, 3) := by decide +kernel
theorem dX12_layCouples_49 : decode cX12_layCouples 49 = .ok (.aload_n 0, 1) := by decide +kernel
theorem dX12_layCouples_50 : decode cX12_layCouples 50 = .ok (.getfield 106, 3) := by decide +kernel
theorem dX12_layCouples_53 : decode cX12_layCouples 53 = .ok (.iload_n 2, 1) := by decide +kernel
theorem dX12_layCouples_54 : decode cX12_layCouples 54 = .ok (.iaload, 1) := by decide +kernel
theorem dX12_layCouples_55 : decode cX12_layCouples 55 = .ok (.istore_n 3, 1) := by decide +kernel
theorem dX12_layCouples_56 : decode cX12_layCouples 56 = .ok (.iload_n 3, 1) := by decide +kernel
theorem dX12_layCouples_57 : decode cX12_layCouples 57 = .ok (.bipush 9, 2) := by decide +kernel
theorem dX12_layCouples_59 : decode cX12_layCouples 59 = .ok (.if_icmp .ne 13, 3) := by decide +kernel
theorem dX12_layCouples_62 : decode cX12_layCouples 62 = .ok (.aload_n 0, 1) := by decide +kernel
theorem dX12_layCouples_63 : decode cX12_layCouples 63 = .ok (.getfield 106, 3) := by decide +kernel
theorem dX12_layCouples_66 : decode cX12_layCouples 66 = .ok (.iload_n 2, 1) := by decide +kernel
theorem dX12_layCouples_67 : decode cX12_layCouples 67 = .ok (.iconst (-1), 1) := by decide +kernel
theorem dX12_layCouples_68 : decode cX12_layCouples 68 = .ok (.iastore, 1) := by decide +kernel
theorem dX12_layCouples_69 : decode cX12_layCouples 69 = .ok (.goto 31, 3) := by decide +kernel
theorem dX12_layCouples_72 : decode cX12_layCouples 72 = .ok (.aload_n 0, 1) := by decide +kernel
theorem dX12_layCouples_73 : decode cX12_layCouples 73 = .ok (.iload_n 2, 1) := by decide +kernel
theorem dX12_layCouples_74 : decode cX12_layCouples 74 = .ok (.iload_n 3, 1) := by decide +kernel
theorem dX12_layCouples_75 : decode cX12_layCouples 75 = .ok (.invokevirtual 422, 3) := by decide +kernel
theorem dX12_layCouples_78 : decode cX12_layCouples 78 = .ok (.ifCond .eq 13, 3) := by decide +kernel
theorem dX12_layCouples_81 : decode cX12_layCouples 81 = .ok (.aload_n 0, 1) := by decide +kernel
theorem dX12_layCouples_82 : decode cX12_layCouples 82 = .ok (.getfield 109, 3) := by decide +kernel
theorem dX12_layCouples_85 : decode cX12_layCouples 85 = .ok (.iload_n 3, 1) := by decide +kernel
theorem dX12_layCouples_86 : decode cX12_layCouples 86 = .ok (.iaload, 1) := by decide +kernel
theorem dX12_layCouples_87 : decode cX12_layCouples 87 = .ok (.iconst (-1), 1) := by decide +kernel
theorem dX12_layCouples_88 : decode cX12_layCouples 88 = .ok (.if_icmp .eq 5, 3) := by decide +kernel
theorem dX12_layCouples_91 : decode cX12_layCouples 91 = .ok (.iconst 0, 1) := by decide +kernel
theorem dX12_layCouples_92 : decode cX12_layCouples 92 = .ok (.ireturn, 1) := by decide +kernel
theorem dX12_layCouples_93 : decode cX12_layCouples 93 = .ok (.aload_n 0, 1) := by decide +kernel
theorem dX12_layCouples_94 : decode cX12_layCouples 94 = .ok (.getfield 109, 3) := by decide +kernel
theorem dX12_layCouples_97 : decode cX12_layCouples 97 = .ok (.iload_n 3, 1) := by decide +kernel
theorem dX12_layCouples_98 : decode cX12_layCouples 98 = .ok (.iload_n 2, 1) := by decide +kernel
theorem dX12_layCouples_99 : decode cX12_layCouples 99 = .ok (.iastore, 1) := by decide +kernel
theorem dX12_layCouples_100 : decode cX12_layCouples 100 = .ok (.iinc 2 1, 3) := by decide +kernel
theorem dX12_layCouples_103 : decode cX12_layCouples 103 = .ok (.goto (-59), 3) := by decide +kernel
theorem dX12_layCouples_106 : decode cX12_layCouples 106 = .ok (.iconst 1, 1) := by decide +kernel
theorem dX12_layCouples_107 : decode cX12_layCouples 107 = .ok (.ireturn, 1) := by decide +kernel
theorem dX12_leavers_0 : decode cX12_leavers 0 = .ok (.iload_n 2, 1) := by decide +kernel
theorem dX12_leavers_1 : decode cX12_leavers 1 = .ok (.iconst (-1), 1) := by decide +kernel
theorem dX12_leavers_2 : decode cX12_leavers 2 = .ok (.if_icmp .lt 11, 3) := by decide +kernel
theorem dX12_leavers_5 : decode cX12_leavers 5 = .ok (.aload_n 0, 1) := by decide +kernel
theorem dX12_leavers_6 : decode cX12_leavers 6 = .ok (.iload_n 1, 1) := by decide +kernel
theorem dX12_leavers_7 : decode cX12_leavers 7 = .ok (.invokevirtual 486, 3) := by decide +kernel
theorem dX12_leavers_10 : decode cX12_leavers 10 = .ok (.ifCond .ne 5, 3) := by decide +kernel
theorem dX12_leavers_13 : decode cX12_leavers 13 = .ok (.iconst (-1), 1) := by decide +kernel
theorem dX12_leavers_14 : decode cX12_leavers 14 = .ok (.ireturn, 1) := by decide +kernel
theorem dX12_leavers_15 : decode cX12_leavers 15 = .ok (.iconst 0, 1) := by decide +kernel
theorem dX12_leavers_16 : decode cX12_leavers 16 = .ok (.istore_n 3, 1) := by decide +kernel
theorem dX12_leavers_17 : decode cX12_leavers 17 = .ok (.iconst 0, 1) := by decide +kernel
theorem dX12_leavers_18 : decode cX12_leavers 18 = .ok (.istore 4, 2) := by decide +kernel
theorem dX12_leavers_20 : decode cX12_leavers 20 = .ok (.iload 4, 2) := by decide +kernel
theorem dX12_leavers_22 : decode cX12_leavers 22 = .ok (.iconst 4, 1) := by decide +kernel
theorem dX12_leavers_23 : decode cX12_leavers 23 = .ok (.if_icmp .ge 154, 3) := by decide +kernel
theorem dX12_leavers_26 : decode cX12_leavers 26 = .ok (.iconst 0, 1) := by decide +kernel
theorem dX12_leavers_27 : decode cX12_leavers 27 = .ok (.istore 5, 2) := by decide +kernel
theorem dX12_leavers_29 : decode cX12_leavers 29 = .ok (.iload 5, 2) := by decide +kernel
theorem dX12_leavers_31 : decode cX12_leavers 31 = .ok (.iconst 4, 1) := by decide +kernel
theorem dX12_leavers_32 : decode cX12_leavers 32 = .ok (.if_icmp .ge 139, 3) := by decide +kernel
theorem dX12_leavers_35 : decode cX12_leavers 35 = .ok (.aload_n 0, 1) := by decide +kernel
theorem dX12_leavers_36 : decode cX12_leavers 36 = .ok (.iload 4, 2) := by decide +kernel
theorem dX12_leavers_38 : decode cX12_leavers 38 = .ok (.iload 5, 2) := by decide +kernel
theorem dX12_leavers_40 : decode cX12_leavers 40 = .ok (.invokevirtual 422, 3) := by decide +kernel
theorem dX12_leavers_43 : decode cX12_leavers 43 = .ok (.ifCond .eq 122, 3) := by decide +kernel
theorem dX12_leavers_46 : decode cX12_leavers 46 = .ok (.aload_n 0, 1) := by decide +kernel
theorem dX12_leavers_47 : decode cX12_leavers 47 = .ok (.getfield 106, 3) := by decide +kernel
theorem dX12_leavers_50 : decode cX12_leavers 50 = .ok (.iload 4, 2) := by decide +kernel
theorem dX12_leavers_52 : decode cX12_leavers 52 = .ok (.iaload, 1) := by decide +kernel
theorem dX12_leavers_53 : decode cX12_leavers 53 = .ok (.iload 5, 2) := by decide +kernel
theorem dX12_leavers_55 : decode cX12_leavers 55 = .ok (.if_icmp .eq 110, 3) := by decide +kernel
theorem dX12_leavers_58 : decode cX12_leavers 58 = .ok (.aload_n 0, 1) := by decide +kernel
theorem dX12_leavers_59 : decode cX12_leavers 59 = .ok (.iload 4, 2) := by decide +kernel
theorem dX12_leavers_61 : decode cX12_leavers 61 = .ok (.iload 5, 2) := by decide +kernel
theorem dX12_leavers_63 : decode cX12_leavers 63 = .ok (.invokevirtual 425, 3) := by decide +kernel
theorem dX12_leavers_66 : decode cX12_leavers 66 = .ok (.istore 6, 2) := by decide +kernel
theorem dX12_leavers_68 : decode cX12_leavers 68 = .ok (.aload_n 0, 1) := by decide +kernel
theorem dX12_leavers_69 : decode cX12_leavers 69 = .ok (.getfield 106, 3) := by decide +kernel
theorem dX12_leavers_72 : decode cX12_leavers 72 = .ok (.iload 4, 2) := by decide +kernel
theorem dX12_leavers_74 : decode cX12_leavers 74 = .ok (.iaload, 1) := by decide +kernel
theorem dX12_leavers_75 : decode cX12_leavers 75 = .ok (.iconst (-1), 1) := by decide +kernel
theorem dX12_leavers_76 : decode cX12_leavers 76 = .ok (.if_icmp .eq 21, 3) := by decide +kernel
theorem dX12_leavers_79 : decode cX12_leavers 79 = .ok (.iload 6, 2) := by decide +kernel
theorem dX12_leavers_81 : decode cX12_leavers 81 = .ok (.aload_n 0, 1) := by decide +kernel
theorem dX12_leavers_82 : decode cX12_leavers 82 = .ok (.iload 4, 2) := by decide +kernel
theorem dX12_leavers_84 : decode cX12_leavers 84 = .ok (.aload_n 0, 1) := by decide +kernel
theorem dX12_leavers_85 : decode cX12_leavers 85 = .ok (.getfield 106, 3) := by decide +kernel
theorem dX12_leavers_88 : decode cX12_leavers 88 = .ok (.iload 4, 2) := by decide +kernel
theorem dX12_leavers_90 : decode cX12_leavers 90 = .ok (.iaload, 1) := by decide +kernel
theorem dX12_leavers_91 : decode cX12_leavers 91 = .ok (.invokevirtual 425, 3) := by decide +kernel
theorem dX12_leavers_94 : decode cX12_leavers 94 = .ok (.if_icmp .le 36, 3) := by decide +kernel
theorem dX12_leavers_97 : decode cX12_leavers 97 = .ok (.aload_n 0, 1) := by decide +kernel
theorem dX12_leavers_98 : decode cX12_leavers 98 = .ok (.getfield 109, 3) := by decide +kernel
theorem dX12_leavers_101 : decode cX12_leavers 101 = .ok (.iload 5, 2) := by decide +kernel
theorem dX12_leavers_103 : decode cX12_leavers 103 = .ok (.iaload, 1) := by decide +kernel
theorem dX12_leavers_104 : decode cX12_leavers 104 = .ok (.iconst (-1), 1) := by decide +kernel
theorem dX12_leavers_105 : decode cX12_leavers 105 = .ok (.if_icmp .eq 21, 3) := by decide +kernel
theorem dX12_leavers_108 : decode cX12_leavers 108 = .ok (.iload 6, 2) := by decide +kernel
theorem dX12_leavers_110 : decode cX12_leavers 110 = .ok (.aload_n 0, 1) := by decide +kernel
theorem dX12_leavers_111 : decode cX12_leavers 111 = .ok (.aload_n 0, 1) := by decide +kernel
theorem dX12_leavers_112 : decode cX12_leavers 112 = .ok (.getfield 109, 3) := by decide +kernel
theorem dX12_leavers_115 : decode cX12_leavers 115 = .ok (.iload 5, 2) := by decide +kernel
theorem dX12_leavers_117 : decode cX12_leavers 117 = .ok (.iaload, 1) := by decide +kernel
theorem dX12_leavers_118 : decode cX12_leavers 118 = .ok (.iload 5, 2) := by decide +kernel
theorem dX12_leavers_120 : decode cX12_leavers 120 = .ok (.invokevirtual 425, 3) := by decide +kernel
theorem dX12_leavers_123 : decode cX12_leavers 123 = .ok (.if_icmp .le 7, 3) := by decide +kernel
theorem dX12_leavers_126 : decode cX12_leavers 126 = .ok (.iconst 1, 1) := by decide +kernel
theorem dX12_leavers_127 : decode cX12_leavers 127 = .ok (.goto 4, 3) := by decide +kernel
theorem dX12_leavers_130 : decode cX12_leavers 130 = .ok (.iconst 0, 1) := by decide +kernel
theorem dX12_leavers_131 : decode cX12_leavers 131 = .ok (.istore 7, 2) := by decide +kernel
theorem dX12_leavers_133 : decode cX12_leavers 133 = .ok (.iload 7, 2) := by decide +kernel
theorem dX12_leavers_135 : decode cX12_leavers 135 = .ok (.ifCond .eq 17, 3) := by decide +kernel
theorem dX12_leavers_138 : decode cX12_leavers 138 = .ok (.iload_n 3, 1) := by decide +kernel
theorem dX12_leavers_139 : decode cX12_leavers 139 = .ok (.iload_n 2, 1) := by decide +kernel
theorem dX12_leavers_140 : decode cX12_leavers 140 = .ok (.if_icmp .ne 12, 3) := by decide +kernel
theorem dX12_leavers_143 : decode cX12_leavers 143 = .ok (.bipush 10, 2) := by decide +kernel
theorem dX12_leavers_145 : decode cX12_leavers 145 = .ok (.iload 4, 2) := by decide +kernel
theorem dX12_leavers_147 : decode cX12_leavers 147 = .ok (.imul, 1) := by decide +kernel
theorem dX12_leavers_148 : decode cX12_leavers 148 = .ok (.iload 5, 2) := by decide +kernel
theorem dX12_leavers_150 : decode cX12_leavers 150 = .ok (.iadd, 1) := by decide +kernel
theorem dX12_leavers_151 : decode cX12_leavers 151 = .ok (.ireturn, 1) := by decide +kernel
theorem dX12_leavers_152 : decode cX12_leavers 152 = .ok (.iload_n 3, 1) := by decide +kernel
theorem dX12_leavers_153 : decode cX12_leavers 153 = .ok (.iload 7, 2) := by decide +kernel
theorem dX12_leavers_155 : decode cX12_leavers 155 = .ok (.ifCond .eq 7, 3) := by decide +kernel
theorem dX12_leavers_158 : decode cX12_leavers 158 = .ok (.iconst 1, 1) := by decide +kernel
theorem dX12_leavers_159 : decode cX12_leavers 159 = .ok (.goto 4, 3) := by decide +kernel
theorem dX12_leavers_162 : decode cX12_leavers 162 = .ok (.iconst 0, 1) := by decide +kernel
theorem dX12_leavers_163 : decode cX12_leavers 163 = .ok (.iadd, 1) := by decide +kernel
theorem dX12_leavers_164 : decode cX12_leavers 164 = .ok (.istore_n 3, 1) := by decide +kernel
theorem dX12_leavers_165 : decode cX12_leavers 165 = .ok (.iinc 5 1, 3) := by decide +kernel
theorem dX12_leavers_168 : decode cX12_leavers 168 = .ok (.goto (-139), 3) := by decide +kernel
theorem dX12_leavers_171 : decode cX12_leavers 171 = .ok (.iinc 4 1, 3) := by decide +kernel
theorem dX12_leavers_174 : decode cX12_leavers 174 = .ok (.goto (-154), 3) := by decide +kernel
theorem dX12_leavers_177 : decode cX12_leavers 177 = .ok (.iload_n 2, 1) := by decide +kernel
theorem dX12_leavers_178 : decode cX12_leavers 178 = .ok (.iconst (-1), 1) := by decide +kernel
theorem dX12_leavers_179 : decode cX12_leavers 179 = .ok (.if_icmp .ne 7, 3) := by decide +kernel
theorem dX12_leavers_182 : decode cX12_leavers 182 = .ok (.iload_n 3, 1) := by decide +kernel
theorem dX12_leavers_183 : decode cX12_leavers 183 = .ok (.goto 4, 3) := by decide +kernel
theorem dX12_leavers_186 : decode cX12_leavers 186 = .ok (.iconst (-1), 1) := by decide +kernel
theorem dX12_leavers_187 : decode cX12_leavers 187 = .ok (.ireturn, 1) := by decide +kernel
theorem dX12_read_0 : decode cX12_read 0 = .ok (.aload_n 0, 1) := by decide +kernel
theorem dX12_read_1 : decode cX12_read 1 = .ok (.iload_n 1, 1) := by decide +kernel
theorem dX12_read_2 : decode cX12_read 2 = .ok (.iload_n 2, 1) := by decide +kernel
theorem dX12_read_3 : decode cX12_read 3 = .ok (.iconst (-1), 1) := by decide +kernel
theorem dX12_read_4 : decode cX12_read 4 = .ok (.invokevirtual 489, 3) := by decide +kernel
theorem dX12_read_7 : decode cX12_read 7 = .ok (.istore 4, 2) := by decide +kernel
theorem dX12_read_9 : decode cX12_read 9 = .ok (.iload 4, 2) := by decide +kernel
theorem dX12_read_11 : decode cX12_read 11 = .ok (.iconst (-1), 1) := by decide +kernel
theorem dX12_read_12 : decode cX12_read 12 = .ok (.if_icmp .eq 17, 3) := by decide +kernel
theorem dX12_read_15 : decode cX12_read 15 = .ok (.iload_n 3, 1) := by decide +kernel
theorem dX12_read_16 : decode cX12_read 16 = .ok (.iconst 0, 1) := by decide +kernel
theorem dX12_read_17 : decode cX12_read 17 = .ok (.iconst 1, 1) := by decide +kernel
theorem dX12_read_18 : decode cX12_read 18 = .ok (.iload 4, 2) := by decide +kernel
theorem dX12_read_20 : decode cX12_read 20 = .ok (.ishl, 1) := by decide +kernel
theorem dX12_read_21 : decode cX12_read 21 = .ok (.iconst 1, 1) := by decide +kernel
theorem dX12_read_22 : decode cX12_read 22 = .ok (.isub, 1) := by decide +kernel
theorem dX12_read_23 : decode cX12_read 23 = .ok (.invokestatic 269, 3) := by decide +kernel
theorem dX12_read_26 : decode cX12_read 26 = .ok (.ifCond .ne 5, 3) := by decide +kernel
theorem dX12_read_29 : decode cX12_read 29 = .ok (.iconst (-1), 1) := by decide +kernel
theorem dX12_read_30 : decode cX12_read 30 = .ok (.ireturn, 1) := by decide +kernel
theorem dX12_read_31 : decode cX12_read 31 = .ok (.iconst (-1), 1) := by decide +kernel
theorem dX12_read_32 : decode cX12_read 32 = .ok (.istore 5, 2) := by decide +kernel
theorem dX12_read_34 : decode cX12_read 34 = .ok (.bipush 9, 2) := by decide +kernel
theorem dX12_read_36 : decode cX12_read 36 = .ok (.istore 6, 2) := by decide +kernel
theorem dX12_read_38 : decode cX12_read 38 = .ok (.iconst 0, 1) := by decide +kernel
theorem dX12_read_39 : decode cX12_read 39 = .ok (.istore 7, 2) := by decide +kernel
theorem dX12_read_41 : decode cX12_read 41 = .ok (.iload 7, 2) := by decide +kernel
theorem dX12_read_43 : decode cX12_read 43 = .ok (.iload_n 1, 1) := by decide +kernel
theorem dX12_read_44 : decode cX12_read 44 = .ok (.if_icmp .ge 59, 3) := by decide +kernel
theorem dX12_read_47 : decode cX12_read 47 = .ok (.aload_n 0, 1) := by decide +kernel
theorem dX12_read_48 : decode cX12_read 48 = .ok (.getfield 74, 3) := by decide +kernel
theorem dX12_read_51 : decode cX12_read 51 = .ok (.iload 7, 2) := by decide +kernel
theorem dX12_read_53 : decode cX12_read 53 = .ok (.iaload, 1) := by decide +kernel
theorem dX12_read_54 : decode cX12_read 54 = .ok (.iload_n 3, 1) := by decide +kernel
theorem dX12_read_55 : decode cX12_read 55 = .ok (.ixor, 1) := by decide +kernel
theorem dX12_read_56 : decode cX12_read 56 = .ok (.invokestatic 414, 3) := by decide +kernel
theorem dX12_read_59 : decode cX12_read 59 = .ok (.istore 8, 2) := by decide +kernel
theorem dX12_read_61 : decode cX12_read 61 = .ok (.iload 8, 2) := by decide +kernel
theorem dX12_read_63 : decode cX12_read 63 = .ok (.iload 6, 2) := by decide +kernel
theorem dX12_read_65 : decode cX12_read 65 = .ok (.if_icmp .ge 8, 3) := by decide +kernel
theorem dX12_read_68 : decode cX12_read 68 = .ok (.iload 7, 2) := by decide +kernel
theorem dX12_read_70 : decode cX12_read 70 = .ok (.goto 16, 3) := by decide +kernel
theorem dX12_read_73 : decode cX12_read 73 = .ok (.iload 8, 2) := by decide +kernel
theorem dX12_read_75 : decode cX12_read 75 = .ok (.iload 6, 2) := by decide +kernel
theorem dX12_read_77 : decode cX12_read 77 = .ok (.if_icmp .ne 7, 3) := by decide +kernel
theorem dX12_read_80 : decode cX12_read 80 = .ok (.iconst (-1), 1) := by decide +kernel
theorem dX12_read_81 : decode cX12_read 81 = .ok (.goto 5, 3) := by decide +kernel
theorem dX12_read_84 : decode cX12_read 84 = .ok (.iload 5, 2) := by decide +kernel
theorem dX12_read_86 : decode cX12_read 86 = .ok (.istore 5, 2) := by decide +kernel
theorem dX12_read_88 : decode cX12_read 88 = .ok (.iload 6, 2) := by decide +kernel
theorem dX12_read_90 : decode cX12_read 90 = .ok (.iload 8, 2) := by decide +kernel
theorem dX12_read_92 : decode cX12_read 92 = .ok (.invokestatic 349, 3) := by decide +kernel
theorem dX12_read_95 : decode cX12_read 95 = .ok (.istore 6, 2) := by decide +kernel
theorem dX12_read_97 : decode cX12_read 97 = .ok (.iinc 7 1, 3) := by decide +kernel
theorem dX12_read_100 : decode cX12_read 100 = .ok (.goto (-59), 3) := by decide +kernel
theorem dX12_read_103 : decode cX12_read 103 = .ok (.iload 5, 2) := by decide +kernel
theorem dX12_read_105 : decode cX12_read 105 = .ok (.ireturn, 1) := by decide +kernel
theorem dX12_spread_0 : decode cX12_spread 0 = .ok (.iload_n 1, 1) := by decide +kernel
theorem dX12_spread_1 : decode cX12_spread 1 = .ok (.iconst 2, 1) := by decide +kernel
theorem dX12_spread_2 : decode cX12_spread 2 = .ok (.if_icmp .lt 14, 3) := by decide +kernel
theorem dX12_spread_5 : decode cX12_spread 5 = .ok (.aload_n 0, 1) := by decide +kernel
theorem dX12_spread_6 : decode cX12_spread 6 = .ok (.iload_n 1, 1) := by decide +kernel
theorem dX12_spread_7 : decode cX12_spread 7 = .ok (.iload_n 2, 1) := by decide +kernel
theorem dX12_spread_8 : decode cX12_spread 8 = .ok (.iconst (-1), 1) := by decide +kernel
theorem dX12_spread_9 : decode cX12_spread 9 = .ok (.invokevirtual 489, 3) := by decide +kernel
theorem dX12_spread_12 : decode cX12_spread 12 = .ok (.iconst (-1), 1) := by decide +kernel
theorem dX12_spread_13 : decode cX12_spread 13 = .ok (.if_icmp .ne 5, 3) := by decide +kernel
theorem dX12_spread_16 : decode cX12_spread 16 = .ok (.iconst (-1), 1) := by decide +kernel
theorem dX12_spread_17 : decode cX12_spread 17 = .ok (.ireturn, 1) := by decide +kernel
theorem dX12_spread_18 : decode cX12_spread 18 = .ok (.bipush 9, 2) := by decide +kernel
theorem dX12_spread_20 : decode cX12_spread 20 = .ok (.istore_n 3, 1) := by decide +kernel
theorem dX12_spread_21 : decode cX12_spread 21 = .ok (.iconst 0, 1) := by decide +kernel
theorem dX12_spread_22 : decode cX12_spread 22 = .ok (.istore 4, 2) := by decide +kernel
theorem dX12_spread_24 : decode cX12_spread 24 = .ok (.iload 4, 2) := by decide +kernel
theorem dX12_spread_26 : decode cX12_spread 26 = .ok (.iload_n 1, 1) := by decide +kernel
theorem dX12_spread_27 : decode cX12_spread 27 = .ok (.if_icmp .ge 48, 3) := by decide +kernel
theorem dX12_spread_30 : decode cX12_spread 30 = .ok (.iconst 0, 1) := by decide +kernel
theorem dX12_spread_31 : decode cX12_spread 31 = .ok (.istore 5, 2) := by decide +kernel
theorem dX12_spread_33 : decode cX12_spread 33 = .ok (.iload 5, 2) := by decide +kernel
theorem dX12_spread_35 : decode cX12_spread 35 = .ok (.iload 4, 2) := by decide +kernel
theorem dX12_spread_37 : decode cX12_spread 37 = .ok (.if_icmp .ge 32, 3) := by decide +kernel
theorem dX12_spread_40 : decode cX12_spread 40 = .ok (.iload_n 3, 1) := by decide +kernel
theorem dX12_spread_41 : decode cX12_spread 41 = .ok (.aload_n 0, 1) := by decide +kernel
theorem dX12_spread_42 : decode cX12_spread 42 = .ok (.getfield 74, 3) := by decide +kernel
theorem dX12_spread_45 : decode cX12_spread 45 = .ok (.iload 4, 2) := by decide +kernel
theorem dX12_spread_47 : decode cX12_spread 47 = .ok (.iaload, 1) := by decide +kernel
theorem dX12_spread_48 : decode cX12_spread 48 = .ok (.aload_n 0, 1) := by decide +kernel
theorem dX12_spread_49 : decode cX12_spread 49 = .ok (.getfield 74, 3) := by decide +kernel
theorem dX12_spread_52 : decode cX12_spread 52 = .ok (.iload 5, 2) := by decide +kernel
theorem dX12_spread_54 : decode cX12_spread 54 = .ok (.iaload, 1) := by decide +kernel
theorem dX12_spread_55 : decode cX12_spread 55 = .ok (.ixor, 1) := by decide +kernel
theorem dX12_spread_56 : decode cX12_spread 56 = .ok (.invokestatic 414, 3) := by decide +kernel
theorem dX12_spread_59 : decode cX12_spread 59 = .ok (.invokestatic 349, 3) := by decide +kernel
theorem dX12_spread_62 : decode cX12_spread 62 = .ok (.istore_n 3, 1) := by decide +kernel
theorem dX12_spread_63 : decode cX12_spread 63 = .ok (.iinc 5 1, 3) := by decide +kernel
theorem dX12_spread_66 : decode cX12_spread 66 = .ok (.goto (-33), 3) := by decide +kernel
theorem dX12_spread_69 : decode cX12_spread 69 = .ok (.iinc 4 1, 3) := by decide +kernel
theorem dX12_spread_72 : decode cX12_spread 72 = .ok (.goto (-48), 3) := by decide +kernel
theorem dX12_spread_75 : decode cX12_spread 75 = .ok (.iload_n 3, 1) := by decide +kernel
theorem dX12_spread_76 : decode cX12_spread 76 = .ok (.ireturn, 1) := by decide +kernel
theorem dX12_hoard_0 : decode cX12_hoard 0 = .ok (.aload_n 0, 1) := by decide +kernel
theorem dX12_hoard_1 : decode cX12_hoard 1 = .ok (.iload_n 1, 1) := by decide +kernel
theorem dX12_hoard_2 : decode cX12_hoard 2 = .ok (.invokevirtual 353, 3) := by decide +kernel
theorem dX12_hoard_5 : decode cX12_hoard 5 = .ok (.ifCond .eq 12, 3) := by decide +kernel
theorem dX12_hoard_8 : decode cX12_hoard 8 = .ok (.iload_n 2, 1) := by decide +kernel
theorem dX12_hoard_9 : decode cX12_hoard 9 = .ok (.iconst 0, 1) := by decide +kernel
theorem dX12_hoard_10 : decode cX12_hoard 10 = .ok (.iconst 1, 1) := by decide +kernel
theorem dX12_hoard_11 : decode cX12_hoard 11 = .ok (.invokestatic 269, 3) := by decide +kernel
theorem dX12_hoard_14 : decode cX12_hoard 14 = .ok (.ifCond .ne 5, 3) := by decide +kernel
theorem dX12_hoard_17 : decode cX12_hoard 17 = .ok (.iconst (-1), 1) := by decide +kernel
theorem dX12_hoard_18 : decode cX12_hoard 18 = .ok (.ireturn, 1) := by decide +kernel
theorem dX12_hoard_19 : decode cX12_hoard 19 = .ok (.iconst 0, 1) := by decide +kernel
theorem dX12_hoard_20 : decode cX12_hoard 20 = .ok (.istore_n 3, 1) := by decide +kernel
theorem dX12_hoard_21 : decode cX12_hoard 21 = .ok (.iconst 0, 1) := by decide +kernel
theorem dX12_hoard_22 : decode cX12_hoard 22 = .ok (.istore 4, 2) := by decide +kernel
theorem dX12_hoard_24 : decode cX12_hoard 24 = .ok (.iload 4, 2) := by decide +kernel
theorem dX12_hoard_26 : decode cX12_hoard 26 = .ok (.aload_n 0, 1) := by decide +kernel
theorem dX12_hoard_27 : decode cX12_hoard 27 = .ok (.getfield 331, 3) := by decide +kernel
theorem dX12_hoard_30 : decode cX12_hoard 30 = .ok (.if_icmp .ge 42, 3) := by decide +kernel
theorem dX12_hoard_33 : decode cX12_hoard 33 = .ok (.iload_n 3, 1) := by decide +kernel
theorem dX12_hoard_34 : decode cX12_hoard 34 = .ok (.aload_n 0, 1) := by decide +kernel
theorem dX12_hoard_35 : decode cX12_hoard 35 = .ok (.getfield 118, 3) := by decide +kernel
theorem dX12_hoard_38 : decode cX12_hoard 38 = .ok (.iload 4, 2) := by decide +kernel
theorem dX12_hoard_40 : decode cX12_hoard 40 = .ok (.iaload, 1) := by decide +kernel
theorem dX12_hoard_41 : decode cX12_hoard 41 = .ok (.iload_n 1, 1) := by decide +kernel
theorem dX12_hoard_42 : decode cX12_hoard 42 = .ok (.if_icmp .ne 21, 3) := by decide +kernel
theorem dX12_hoard_45 : decode cX12_hoard 45 = .ok (.iload_n 2, 1) := by decide +kernel
theorem dX12_hoard_46 : decode cX12_hoard 46 = .ok (.ifCond .ne 13, 3) := by decide +kernel
theorem dX12_hoard_49 : decode cX12_hoard 49 = .ok (.aload_n 0, 1) := by decide +kernel
theorem dX12_hoard_50 : decode cX12_hoard 50 = .ok (.getfield 124, 3) := by decide +kernel
theorem dX12_hoard_53 : decode cX12_hoard 53 = .ok (.iload 4, 2) := by decide +kernel
theorem dX12_hoard_55 : decode cX12_hoard 55 = .ok (.iaload, 1) := by decide +kernel
theorem dX12_hoard_56 : decode cX12_hoard 56 = .ok (.goto 8, 3) := by decide +kernel
theorem dX12_hoard_59 : decode cX12_hoard 59 = .ok (.iconst 1, 1) := by decide +kernel
theorem dX12_hoard_60 : decode cX12_hoard 60 = .ok (.goto 4, 3) := by decide +kernel
theorem dX12_hoard_63 : decode cX12_hoard 63 = .ok (.iconst 0, 1) := by decide +kernel
theorem dX12_hoard_64 : decode cX12_hoard 64 = .ok (.iadd, 1) := by decide +kernel
theorem dX12_hoard_65 : decode cX12_hoard 65 = .ok (.istore_n 3, 1) := by decide +kernel
theorem dX12_hoard_66 : decode cX12_hoard 66 = .ok (.iinc 4 1, 3) := by decide +kernel
theorem dX12_hoard_69 : decode cX12_hoard 69 = .ok (.goto (-45), 3) := by decide +kernel
theorem dX12_hoard_72 : decode cX12_hoard 72 = .ok (.iload_n 3, 1) := by decide +kernel
theorem dX12_hoard_73 : decode cX12_hoard 73 = .ok (.ireturn, 1) := by decide +kernel
theorem dX12_said_0 : decode cX12_said 0 = .ok (.aload_n 0, 1) := by decide +kernel
theorem dX12_said_1 : decode cX12_said 1 = .ok (.getfield 306, 3) := by decide +kernel
theorem dX12_said_4 : decode cX12_said 4 = .ok (.ifCond .eq 21, 3) := by decide +kernel
theorem dX12_said_7 : decode cX12_said 7 = .ok (.iload_n 1, 1) := by decide +kernel
theorem dX12_said_8 : decode cX12_said 8 = .ok (.iconst 0, 1) := by decide +kernel
theorem dX12_said_9 : decode cX12_said 9 = .ok (.iconst 3, 1) := by decide +kernel
theorem dX12_said_10 : decode cX12_said 10 = .ok (.invokestatic 269, 3) := by decide +kernel
theorem dX12_said_13 : decode cX12_said 13 = .ok (.ifCond .eq 12, 3) := by decide +kernel
theorem dX12_said_16 : decode cX12_said 16 = .ok (.iload_n 2, 1) := by decide +kernel
theorem dX12_said_17 : decode cX12_said 17 = .ok (.iconst 0, 1) := by decide +kernel
theorem dX12_said_18 : decode cX12_said 18 = .ok (.iconst 3, 1) := by decide +kernel
theorem dX12_said_19 : decode cX12_said 19 = .ok (.invokestatic 269, 3) := by decide +kernel
theorem dX12_said_22 : decode cX12_said 22 = .ok (.ifCond .ne 5, 3) := by decide +kernel
theorem dX12_said_25 : decode cX12_said 25 = .ok (.iconst (-1), 1) := by decide +kernel
theorem dX12_said_26 : decode cX12_said 26 = .ok (.ireturn, 1) := by decide +kernel
theorem dX12_said_27 : decode cX12_said 27 = .ok (.iconst 0, 1) := by decide +kernel
theorem dX12_said_28 : decode cX12_said 28 = .ok (.istore_n 3, 1) := by decide +kernel
theorem dX12_said_29 : decode cX12_said 29 = .ok (.iconst 0, 1) := by decide +kernel
theorem dX12_said_30 : decode cX12_said 30 = .ok (.istore 4, 2) := by decide +kernel
theorem dX12_said_32 : decode cX12_said 32 = .ok (.iload 4, 2) := by decide +kernel
theorem dX12_said_34 : decode cX12_said 34 = .ok (.aload_n 0, 1) := by decide +kernel
theorem dX12_said_35 : decode cX12_said 35 = .ok (.getfield 331, 3) := by decide +kernel
theorem dX12_said_38 : decode cX12_said 38 = .ok (.if_icmp .ge 44, 3) := by decide +kernel
theorem dX12_said_41 : decode cX12_said 41 = .ok (.iload_n 3, 1) := by decide +kernel
theorem dX12_said_42 : decode cX12_said 42 = .ok (.aload_n 0, 1) := by decide +kernel
theorem dX12_said_43 : decode cX12_said 43 = .ok (.aload_n 0, 1) := by decide +kernel
theorem dX12_said_44 : decode cX12_said 44 = .ok (.getfield 118, 3) := by decide +kernel
theorem dX12_said_47 : decode cX12_said 47 = .ok (.iload 4, 2) := by decide +kernel
theorem dX12_said_49 : decode cX12_said 49 = .ok (.iaload, 1) := by decide +kernel
theorem dX12_said_50 : decode cX12_said 50 = .ok (.iconst 1, 1) := by decide +kernel
theorem dX12_said_51 : decode cX12_said 51 = .ok (.invokevirtual 343, 3) := by decide +kernel
theorem dX12_said_54 : decode cX12_said 54 = .ok (.iload_n 1, 1) := by decide +kernel
theorem dX12_said_55 : decode cX12_said 55 = .ok (.if_icmp .ne 18, 3) := by decide +kernel
theorem dX12_said_58 : decode cX12_said 58 = .ok (.aload_n 0, 1) := by decide +kernel
theorem dX12_said_59 : decode cX12_said 59 = .ok (.getfield 121, 3) := by decide +kernel
theorem dX12_said_62 : decode cX12_said 62 = .ok (.iload 4, 2) := by decide +kernel
theorem dX12_said_64 : decode cX12_said 64 = .ok (.iaload, 1) := by decide +kernel
theorem dX12_said_65 : decode cX12_said 65 = .ok (.iload_n 2, 1) := by decide +kernel
theorem dX12_said_66 : decode cX12_said 66 = .ok (.if_icmp .ne 7, 3) := by decide +kernel
theorem dX12_said_69 : decode cX12_said 69 = .ok (.iconst 1, 1) := by decide +kernel
theorem dX12_said_70 : decode cX12_said 70 = .ok (.goto 4, 3) := by decide +kernel
theorem dX12_said_73 : decode cX12_said 73 = .ok (.iconst 0, 1) := by decide +kernel
theorem dX12_said_74 : decode cX12_said 74 = .ok (.iadd, 1) := by decide +kernel
theorem dX12_said_75 : decode cX12_said 75 = .ok (.istore_n 3, 1) := by decide +kernel
theorem dX12_said_76 : decode cX12_said 76 = .ok (.iinc 4 1, 3) := by decide +kernel
theorem dX12_said_79 : decode cX12_said 79 = .ok (.goto (-47), 3) := by decide +kernel
theorem dX12_said_82 : decode cX12_said 82 = .ok (.iload_n 3, 1) := by decide +kernel
theorem dX12_said_83 : decode cX12_said 83 = .ok (.ireturn, 1) := by decide +kernel
theorem dX12_run_0 : decode cX12_run 0 = .ok (.aload_n 0, 1) := by decide +kernel
theorem dX12_run_1 : decode cX12_run 1 = .ok (.getfield 306, 3) := by decide +kernel
theorem dX12_run_4 : decode cX12_run 4 = .ok (.ifCond .ne 5, 3) := by decide +kernel
theorem dX12_run_7 : decode cX12_run 7 = .ok (.iconst (-1), 1) := by decide +kernel
theorem dX12_run_8 : decode cX12_run 8 = .ok (.ireturn, 1) := by decide +kernel
theorem dX12_run_9 : decode cX12_run 9 = .ok (.iconst 0, 1) := by decide +kernel
theorem dX12_run_10 : decode cX12_run 10 = .ok (.istore_n 1, 1) := by decide +kernel
theorem dX12_run_11 : decode cX12_run 11 = .ok (.iconst 0, 1) := by decide +kernel
theorem dX12_run_12 : decode cX12_run 12 = .ok (.istore_n 2, 1) := by decide +kernel
theorem dX12_run_13 : decode cX12_run 13 = .ok (.iconst 0, 1) := by decide +kernel
theorem dX12_run_14 : decode cX12_run 14 = .ok (.istore_n 3, 1) := by decide +kernel
theorem dX12_run_15 : decode cX12_run 15 = .ok (.iload_n 3, 1) := by decide +kernel
theorem dX12_run_16 : decode cX12_run 16 = .ok (.aload_n 0, 1) := by decide +kernel
theorem dX12_run_17 : decode cX12_run 17 = .ok (.getfield 331, 3) := by decide +kernel
theorem dX12_run_20 : decode cX12_run 20 = .ok (.if_icmp .ge 32, 3) := by decide +kernel
theorem dX12_run_23 : decode cX12_run 23 = .ok (.aload_n 0, 1) := by decide +kernel
theorem dX12_run_24 : decode cX12_run 24 = .ok (.getfield 124, 3) := by decide +kernel
theorem dX12_run_27 : decode cX12_run 27 = .ok (.iload_n 3, 1) := by decide +kernel
theorem dX12_run_28 : decode cX12_run 28 = .ok (.iaload, 1) := by decide +kernel
theorem dX12_run_29 : decode cX12_run 29 = .ok (.ifCond .ne 9, 3) := by decide +kernel
theorem dX12_run_32 : decode cX12_run 32 = .ok (.iload_n 2, 1) := by decide +kernel
theorem dX12_run_33 : decode cX12_run 33 = .ok (.iconst 1, 1) := by decide +kernel
theorem dX12_run_34 : decode cX12_run 34 = .ok (.iadd, 1) := by decide +kernel
theorem dX12_run_35 : decode cX12_run 35 = .ok (.goto 4, 3) := by decide +kernel
theorem dX12_run_38 : decode cX12_run 38 = .ok (.iconst 0, 1) := by decide +kernel
theorem dX12_run_39 : decode cX12_run 39 = .ok (.istore_n 2, 1) := by decide +kernel
theorem dX12_run_40 : decode cX12_run 40 = .ok (.iload_n 1, 1) := by decide +kernel
theorem dX12_run_41 : decode cX12_run 41 = .ok (.iload_n 2, 1) := by decide +kernel
theorem dX12_run_42 : decode cX12_run 42 = .ok (.invokestatic 351, 3) := by decide +kernel
theorem dX12_run_45 : decode cX12_run 45 = .ok (.istore_n 1, 1) := by decide +kernel
theorem dX12_run_46 : decode cX12_run 46 = .ok (.iinc 3 1, 3) := by decide +kernel
theorem dX12_run_49 : decode cX12_run 49 = .ok (.goto (-34), 3) := by decide +kernel
theorem dX12_run_52 : decode cX12_run 52 = .ok (.iload_n 1, 1) := by decide +kernel
theorem dX12_run_53 : decode cX12_run 53 = .ok (.ireturn, 1) := by decide +kernel
theorem dX12_copy_0 : decode cX12_copy 0 = .ok (.aload_n 0, 1) := by decide +kernel
theorem dX12_copy_1 : decode cX12_copy 1 = .ok (.getfield 306, 3) := by decide +kernel
theorem dX12_copy_4 : decode cX12_copy 4 = .ok (.ifCond .ne 5, 3) := by decide +kernel
theorem dX12_copy_7 : decode cX12_copy 7 = .ok (.iconst (-1), 1) := by decide +kernel
theorem dX12_copy_8 : decode cX12_copy 8 = .ok (.ireturn, 1) := by decide +kernel
theorem dX12_copy_9 : decode cX12_copy 9 = .ok (.aload_n 0, 1) := by decide +kernel
theorem dX12_copy_10 : decode cX12_copy 10 = .ok (.aload_n 0, 1) := by decide +kernel
theorem dX12_copy_11 : decode cX12_copy 11 = .ok (.getfield 49, 3) := by decide +kernel
theorem dX12_copy_14 : decode cX12_copy 14 = .ok (.invokevirtual 378, 3) := by decide +kernel
theorem dX12_copy_17 : decode cX12_copy 17 = .ok (.aload_n 0, 1) := by decide +kernel
theorem dX12_copy_18 : decode cX12_copy 18 = .ok (.invokevirtual 389, 3) := by decide +kernel
theorem dX12_copy_21 : decode cX12_copy 21 = .ok (.iconst 0, 1) := by decide +kernel
theorem dX12_copy_22 : decode cX12_copy 22 = .ok (.istore_n 1, 1) := by decide +kernel
theorem dX12_copy_23 : decode cX12_copy 23 = .ok (.iconst 0, 1) := by decide +kernel
theorem dX12_copy_24 : decode cX12_copy 24 = .ok (.istore_n 2, 1) := by decide +kernel
theorem dX12_copy_25 : decode cX12_copy 25 = .ok (.iload_n 2, 1) := by decide +kernel
theorem dX12_copy_26 : decode cX12_copy 26 = .ok (.iconst 4, 1) := by decide +kernel
theorem dX12_copy_27 : decode cX12_copy 27 = .ok (.if_icmp .ge 56, 3) := by decide +kernel
theorem dX12_copy_30 : decode cX12_copy 30 = .ok (.iconst 0, 1) := by decide +kernel
theorem dX12_copy_31 : decode cX12_copy 31 = .ok (.istore_n 3, 1) := by decide +kernel
theorem dX12_copy_32 : decode cX12_copy 32 = .ok (.iload_n 3, 1) := by decide +kernel
theorem dX12_copy_33 : decode cX12_copy 33 = .ok (.aload_n 0, 1) := by decide +kernel
theorem dX12_copy_34 : decode cX12_copy 34 = .ok (.getfield 309, 3) := by decide +kernel
theorem dX12_copy_37 : decode cX12_copy 37 = .ok (.if_icmp .ge 40, 3) := by decide +kernel
theorem dX12_copy_40 : decode cX12_copy 40 = .ok (.iload_n 1, 1) := by decide +kernel
theorem dX12_copy_41 : decode cX12_copy 41 = .ok (.aload_n 0, 1) := by decide +kernel
theorem dX12_copy_42 : decode cX12_copy 42 = .ok (.getfield 52, 3) := by decide +kernel
theorem dX12_copy_45 : decode cX12_copy 45 = .ok (.iconst 4, 1) := by decide +kernel
theorem dX12_copy_46 : decode cX12_copy 46 = .ok (.iload_n 2, 1) := by decide +kernel
theorem dX12_copy_47 : decode cX12_copy 47 = .ok (.imul, 1) := by decide +kernel
theorem dX12_copy_48 : decode cX12_copy 48 = .ok (.iload_n 3, 1) := by decide +kernel
theorem dX12_copy_49 : decode cX12_copy 49 = .ok (.iadd, 1) := by decide +kernel
theorem dX12_copy_50 : decode cX12_copy 50 = .ok (.iaload, 1) := by decide +kernel
theorem dX12_copy_51 : decode cX12_copy 51 = .ok (.aload_n 0, 1) := by decide +kernel
theorem dX12_copy_52 : decode cX12_copy 52 = .ok (.getfield 65, 3) := by decide +kernel
theorem dX12_copy_55 : decode cX12_copy 55 = .ok (.iconst 4, 1) := by decide +kernel
theorem dX12_copy_56 : decode cX12_copy 56 = .ok (.iload_n 2, 1) := by decide +kernel
theorem dX12_copy_57 : decode cX12_copy 57 = .ok (.imul, 1) := by decide +kernel
theorem dX12_copy_58 : decode cX12_copy 58 = .ok (.iload_n 3, 1) := by decide +kernel
theorem dX12_copy_59 : decode cX12_copy 59 = .ok (.iadd, 1) := by decide +kernel
theorem dX12_copy_60 : decode cX12_copy 60 = .ok (.iaload, 1) := by decide +kernel
theorem dX12_copy_61 : decode cX12_copy 61 = .ok (.if_icmp .ne 7, 3) := by decide +kernel
theorem dX12_copy_64 : decode cX12_copy 64 = .ok (.iconst 1, 1) := by decide +kernel
theorem dX12_copy_65 : decode cX12_copy 65 = .ok (.goto 4, 3) := by decide +kernel
theorem dX12_copy_68 : decode cX12_copy 68 = .ok (.iconst 0, 1) := by decide +kernel
theorem dX12_copy_69 : decode cX12_copy 69 = .ok (.iadd, 1) := by decide +kernel
theorem dX12_copy_70 : decode cX12_copy 70 = .ok (.istore_n 1, 1) := by decide +kernel
theorem dX12_copy_71 : decode cX12_copy 71 = .ok (.iinc 3 1, 3) := by decide +kernel
theorem dX12_copy_74 : decode cX12_copy 74 = .ok (.goto (-42), 3) := by decide +kernel
theorem dX12_copy_77 : decode cX12_copy 77 = .ok (.iinc 2 1, 3) := by decide +kernel
theorem dX12_copy_80 : decode cX12_copy 80 = .ok (.goto (-55), 3) := by decide +kernel
theorem dX12_copy_83 : decode cX12_copy 83 = .ok (.iload_n 1, 1) := by decide +kernel
theorem dX12_copy_84 : decode cX12_copy 84 = .ok (.ireturn, 1) := by decide +kernel
theorem dX12_wet_0 : decode cX12_wet 0 = .ok (.aload_n 0, 1) := by decide +kernel
theorem dX12_wet_1 : decode cX12_wet 1 = .ok (.getfield 306, 3) := by decide +kernel
theorem dX12_wet_4 : decode cX12_wet 4 = .ok (.ifCond .eq 21, 3) := by decide +kernel
theorem dX12_wet_7 : decode cX12_wet 7 = .ok (.iload_n 1, 1) := by decide +kernel
theorem dX12_wet_8 : decode cX12_wet 8 = .ok (.iconst 0, 1) := by decide +kernel
theorem dX12_wet_9 : decode cX12_wet 9 = .ok (.bipush 99, 2) := by decide +kernel
theorem dX12_wet_11 : decode cX12_wet 11 = .ok (.invokestatic 269, 3) := by decide +kernel
theorem dX12_wet_14 : decode cX12_wet 14 = .ok (.ifCond .eq 11, 3) := by decide +kernel
theorem dX12_wet_17 : decode cX12_wet 17 = .ok (.iload_n 1, 1) := by decide +kernel
theorem dX12_wet_18 : decode cX12_wet 18 = .ok (.aload_n 0, 1) := by decide +kernel
theorem dX12_wet_19 : decode cX12_wet 19 = .ok (.getfield 312, 3) := by decide +kernel
theorem dX12_wet_22 : decode cX12_wet 22 = .ok (.if_icmp .ne 5, 3) := by decide +kernel
theorem dX12_wet_25 : decode cX12_wet 25 = .ok (.iconst 0, 1) := by decide +kernel
theorem dX12_wet_26 : decode cX12_wet 26 = .ok (.ireturn, 1) := by decide +kernel
theorem dX12_wet_27 : decode cX12_wet 27 = .ok (.aload_n 0, 1) := by decide +kernel
theorem dX12_wet_28 : decode cX12_wet 28 = .ok (.iload_n 1, 1) := by decide +kernel
theorem dX12_wet_29 : decode cX12_wet 29 = .ok (.putfield 312, 3) := by decide +kernel
theorem dX12_wet_32 : decode cX12_wet 32 = .ok (.iconst 1, 1) := by decide +kernel
theorem dX12_wet_33 : decode cX12_wet 33 = .ok (.ireturn, 1) := by decide +kernel
theorem dX12_see_0 : decode cX12_see 0 = .ok (.aload_n 0, 1) := by decide +kernel
theorem dX12_see_1 : decode cX12_see 1 = .ok (.iload_n 1, 1) := by decide +kernel
theorem dX12_see_2 : decode cX12_see 2 = .ok (.invokevirtual 353, 3) := by decide +kernel
theorem dX12_see_5 : decode cX12_see 5 = .ok (.ifCond .eq 20, 3) := by decide +kernel
theorem dX12_see_8 : decode cX12_see 8 = .ok (.aload_n 0, 1) := by decide +kernel
theorem dX12_see_9 : decode cX12_see 9 = .ok (.iload_n 2, 1) := by decide +kernel
theorem dX12_see_10 : decode cX12_see 10 = .ok (.invokevirtual 353, 3) := by decide +kernel
theorem dX12_see_13 : decode cX12_see 13 = .ok (.ifCond .eq 12, 3) := by decide +kernel
theorem dX12_see_16 : decode cX12_see 16 = .ok (.aload_n 0, 1) := by decide +kernel
theorem dX12_see_17 : decode cX12_see 17 = .ok (.getfield 328, 3) := by decide +kernel
theorem dX12_see_20 : decode cX12_see 20 = .ok (.bipush 20, 2) := by decide +kernel
theorem dX12_see_22 : decode cX12_see 22 = .ok (.if_icmp .ne 5, 3) := by decide +kernel
theorem dX12_see_25 : decode cX12_see 25 = .ok (.iconst (-1), 1) := by decide +kernel
theorem dX12_see_26 : decode cX12_see 26 = .ok (.ireturn, 1) := by decide +kernel
theorem dX12_see_27 : decode cX12_see 27 = .ok (.aload_n 0, 1) := by decide +kernel
theorem dX12_see_28 : decode cX12_see 28 = .ok (.getfield 112, 3) := by decide +kernel
theorem dX12_see_31 : decode cX12_see 31 = .ok (.aload_n 0, 1) := by decide +kernel
theorem dX12_see_32 : decode cX12_see 32 = .ok (.getfield 328, 3) := by decide +kernel
theorem dX12_see_35 : decode cX12_see 35 = .ok (.iload_n 1, 1) := by decide +kernel
theorem dX12_see_36 : decode cX12_see 36 = .ok (.iastore, 1) := by decide +kernel
theorem dX12_see_37 : decode cX12_see 37 = .ok (.aload_n 0, 1) := by decide +kernel
theorem dX12_see_38 : decode cX12_see 38 = .ok (.getfield 115, 3) := by decide +kernel
theorem dX12_see_41 : decode cX12_see 41 = .ok (.aload_n 0, 1) := by decide +kernel
theorem dX12_see_42 : decode cX12_see 42 = .ok (.getfield 328, 3) := by decide +kernel
theorem dX12_see_45 : decode cX12_see 45 = .ok (.iload_n 2, 1) := by decide +kernel
theorem dX12_see_46 : decode cX12_see 46 = .ok (.iastore, 1) := by decide +kernel
theorem dX12_see_47 : decode cX12_see 47 = .ok (.aload_n 0, 1) := by decide +kernel
theorem dX12_see_48 : decode cX12_see 48 = .ok (.dup, 1) := by decide +kernel
theorem dX12_see_49 : decode cX12_see 49 = .ok (.getfield 328, 3) := by decide +kernel
theorem dX12_see_52 : decode cX12_see 52 = .ok (.iconst 1, 1) := by decide +kernel
theorem dX12_see_53 : decode cX12_see 53 = .ok (.iadd, 1) := by decide +kernel
theorem dX12_see_54 : decode cX12_see 54 = .ok (.putfield 328, 3) := by decide +kernel
theorem dX12_see_57 : decode cX12_see 57 = .ok (.aload_n 0, 1) := by decide +kernel
theorem dX12_see_58 : decode cX12_see 58 = .ok (.getfield 328, 3) := by decide +kernel
theorem dX12_see_61 : decode cX12_see 61 = .ok (.ireturn, 1) := by decide +kernel
theorem dX12_agrees_0 : decode cX12_agrees 0 = .ok (.iconst 0, 1) := by decide +kernel
theorem dX12_agrees_1 : decode cX12_agrees 1 = .ok (.istore_n 2, 1) := by decide +kernel
theorem dX12_agrees_2 : decode cX12_agrees 2 = .ok (.iload_n 2, 1) := by decide +kernel
theorem dX12_agrees_3 : decode cX12_agrees 3 = .ok (.aload_n 0, 1) := by decide +kernel
theorem dX12_agrees_4 : decode cX12_agrees 4 = .ok (.getfield 328, 3) := by decide +kernel
theorem dX12_agrees_7 : decode cX12_agrees 7 = .ok (.if_icmp .ge 47, 3) := by decide +kernel
theorem dX12_agrees_10 : decode cX12_agrees 10 = .ok (.aload_n 0, 1) := by decide +kernel
theorem dX12_agrees_11 : decode cX12_agrees 11 = .ok (.getfield 112, 3) := by decide +kernel
theorem dX12_agrees_14 : decode cX12_agrees 14 = .ok (.iload_n 2, 1) := by decide +kernel
theorem dX12_agrees_15 : decode cX12_agrees 15 = .ok (.iaload, 1) := by decide +kernel
theorem dX12_agrees_16 : decode cX12_agrees 16 = .ok (.istore_n 3, 1) := by decide +kernel
theorem dX12_agrees_17 : decode cX12_agrees 17 = .ok (.aload_n 0, 1) := by decide +kernel
theorem dX12_agrees_18 : decode cX12_agrees 18 = .ok (.getfield 52, 3) := by decide +kernel
theorem dX12_agrees_21 : decode cX12_agrees 21 = .ok (.iconst 4, 1) := by decide +kernel
theorem dX12_agrees_22 : decode cX12_agrees 22 = .ok (.aload_n 0, 1) := by decide +kernel
theorem dX12_agrees_23 : decode cX12_agrees 23 = .ok (.iload_n 3, 1) := by decide +kernel
theorem dX12_agrees_24 : decode cX12_agrees 24 = .ok (.invokevirtual 369, 3) := by decide +kernel
theorem dX12_agrees_27 : decode cX12_agrees 27 = .ok (.imul, 1) := by decide +kernel
theorem dX12_agrees_28 : decode cX12_agrees 28 = .ok (.aload_n 1, 1) := by decide +kernel
theorem dX12_agrees_29 : decode cX12_agrees 29 = .ok (.aload_n 0, 1) := by decide +kernel
theorem dX12_agrees_30 : decode cX12_agrees 30 = .ok (.iload_n 3, 1) := by decide +kernel
theorem dX12_agrees_31 : decode cX12_agrees 31 = .ok (.invokevirtual 366, 3) := by decide +kernel
theorem dX12_agrees_34 : decode cX12_agrees 34 = .ok (.iaload, 1) := by decide +kernel
theorem dX12_agrees_35 : decode cX12_agrees 35 = .ok (.iadd, 1) := by decide +kernel
theorem dX12_agrees_36 : decode cX12_agrees 36 = .ok (.iaload, 1) := by decide +kernel
theorem dX12_agrees_37 : decode cX12_agrees 37 = .ok (.aload_n 0, 1) := by decide +kernel
theorem dX12_agrees_38 : decode cX12_agrees 38 = .ok (.getfield 115, 3) := by decide +kernel
theorem dX12_agrees_41 : decode cX12_agrees 41 = .ok (.iload_n 2, 1) := by decide +kernel
theorem dX12_agrees_42 : decode cX12_agrees 42 = .ok (.iaload, 1) := by decide +kernel
theorem dX12_agrees_43 : decode cX12_agrees 43 = .ok (.if_icmp .eq 5, 3) := by decide +kernel
theorem dX12_agrees_46 : decode cX12_agrees 46 = .ok (.iconst 0, 1) := by decide +kernel
theorem dX12_agrees_47 : decode cX12_agrees 47 = .ok (.ireturn, 1) := by decide +kernel
theorem dX12_agrees_48 : decode cX12_agrees 48 = .ok (.iinc 2 1, 3) := by decide +kernel
theorem dX12_agrees_51 : decode cX12_agrees 51 = .ok (.goto (-49), 3) := by decide +kernel
theorem dX12_agrees_54 : decode cX12_agrees 54 = .ok (.iconst 1, 1) := by decide +kernel
theorem dX12_agrees_55 : decode cX12_agrees 55 = .ok (.ireturn, 1) := by decide +kernel
theorem dX12_meant_0 : decode cX12_meant 0 = .ok (.aload_n 0, 1) := by decide +kernel
theorem dX12_meant_1 : decode cX12_meant 1 = .ok (.getfield 306, 3) := by decide +kernel
theorem dX12_meant_4 : decode cX12_meant 4 = .ok (.ifCond .eq 8, 3) := by decide +kernel
theorem dX12_meant_7 : decode cX12_meant 7 = .ok (.iload_n 1, 1) := by decide +kernel
theorem dX12_meant_8 : decode cX12_meant 8 = .ok (.iconst (-1), 1) := by decide +kernel
theorem dX12_meant_9 : decode cX12_meant 9 = .ok (.if_icmp .ge 5, 3) := by decide +kernel
theorem dX12_meant_12 : decode cX12_meant 12 = .ok (.iconst (-1), 1) := by decide +kernel
theorem dX12_meant_13 : decode cX12_meant 13 = .ok (.ireturn, 1) := by decide +kernel
theorem dX12_meant_14 : decode cX12_meant 14 = .ok (.iconst 0, 1) := by decide +kernel
theorem dX12_meant_15 : decode cX12_meant 15 = .ok (.istore_n 2, 1) := by decide +kernel
theorem dX12_meant_16 : decode cX12_meant 16 = .ok (.iconst 0, 1) := by decide +kernel
theorem dX12_meant_17 : decode cX12_meant 17 = .ok (.istore_n 3, 1) := by decide +kernel
theorem dX12_meant_18 : decode cX12_meant 18 = .ok (.iload_n 3, 1) := by decide +kernel
theorem dX12_meant_19 : decode cX12_meant 19 = .ok (.aload_n 0, 1) := by decide +kernel
theorem dX12_meant_20 : decode cX12_meant 20 = .ok (.getfield 309, 3) := by decide +kernel
theorem dX12_meant_23 : decode cX12_meant 23 = .ok (.aload_n 0, 1) := by decide +kernel
theorem dX12_meant_24 : decode cX12_meant 24 = .ok (.getfield 309, 3) := by decide +kernel
theorem dX12_meant_27 : decode cX12_meant 27 = .ok (.imul, 1) := by decide +kernel
theorem dX12_meant_28 : decode cX12_meant 28 = .ok (.aload_n 0, 1) := by decide +kernel
theorem dX12_meant_29 : decode cX12_meant 29 = .ok (.getfield 309, 3) := by decide +kernel
theorem dX12_meant_32 : decode cX12_meant 32 = .ok (.imul, 1) := by decide +kernel
theorem dX12_meant_33 : decode cX12_meant 33 = .ok (.aload_n 0, 1) := by decide +kernel
theorem dX12_meant_34 : decode cX12_meant 34 = .ok (.getfield 309, 3) := by decide +kernel
theorem dX12_meant_37 : decode cX12_meant 37 = .ok (.imul, 1) := by decide +kernel
theorem dX12_meant_38 : decode cX12_meant 38 = .ok (.if_icmp .ge 49, 3) := by decide +kernel
theorem dX12_meant_41 : decode cX12_meant 41 = .ok (.aload_n 0, 1) := by decide +kernel
theorem dX12_meant_42 : decode cX12_meant 42 = .ok (.iload_n 3, 1) := by decide +kernel
theorem dX12_meant_43 : decode cX12_meant 43 = .ok (.aload_n 0, 1) := by decide +kernel
theorem dX12_meant_44 : decode cX12_meant 44 = .ok (.getfield 309, 3) := by decide +kernel
theorem dX12_meant_47 : decode cX12_meant 47 = .ok (.aload_n 0, 1) := by decide +kernel
theorem dX12_meant_48 : decode cX12_meant 48 = .ok (.getfield 59, 3) := by decide +kernel
theorem dX12_meant_51 : decode cX12_meant 51 = .ok (.invokevirtual 395, 3) := by decide +kernel
theorem dX12_meant_54 : decode cX12_meant 54 = .ok (.aload_n 0, 1) := by decide +kernel
theorem dX12_meant_55 : decode cX12_meant 55 = .ok (.aload_n 0, 1) := by decide +kernel
theorem dX12_meant_56 : decode cX12_meant 56 = .ok (.getfield 59, 3) := by decide +kernel
theorem dX12_meant_59 : decode cX12_meant 59 = .ok (.invokevirtual 491, 3) := by decide +kernel
theorem dX12_meant_62 : decode cX12_meant 62 = .ok (.ifCond .eq 19, 3) := by decide +kernel
theorem dX12_meant_65 : decode cX12_meant 65 = .ok (.iload_n 2, 1) := by decide +kernel
theorem dX12_meant_66 : decode cX12_meant 66 = .ok (.iload_n 1, 1) := by decide +kernel
theorem dX12_meant_67 : decode cX12_meant 67 = .ok (.if_icmp .ne 11, 3) := by decide +kernel
theorem dX12_meant_70 : decode cX12_meant 70 = .ok (.aload_n 0, 1) := by decide +kernel
theorem dX12_meant_71 : decode cX12_meant 71 = .ok (.getfield 59, 3) := by decide +kernel
theorem dX12_meant_74 : decode cX12_meant 74 = .ok (.invokestatic 402, 3) := by decide +kernel
theorem dX12_meant_77 : decode cX12_meant 77 = .ok (.ireturn, 1) := by decide +kernel
theorem dX12_meant_78 : decode cX12_meant 78 = .ok (.iinc 2 1, 3) := by decide +kernel
theorem dX12_meant_81 : decode cX12_meant 81 = .ok (.iinc 3 1, 3) := by decide +kernel
theorem dX12_meant_84 : decode cX12_meant 84 = .ok (.goto (-66), 3) := by decide +kernel
theorem dX12_meant_87 : decode cX12_meant 87 = .ok (.iload_n 1, 1) := by decide +kernel
theorem dX12_meant_88 : decode cX12_meant 88 = .ok (.iconst (-1), 1) := by decide +kernel
theorem dX12_meant_89 : decode cX12_meant 89 = .ok (.if_icmp .ne 7, 3) := by decide +kernel
theorem dX12_meant_92 : decode cX12_meant 92 = .ok (.iload_n 2, 1) := by decide +kernel
theorem dX12_meant_93 : decode cX12_meant 93 = .ok (.goto 4, 3) := by decide +kernel
theorem dX12_meant_96 : decode cX12_meant 96 = .ok (.iconst (-1), 1) := by decide +kernel
theorem dX12_meant_97 : decode cX12_meant 97 = .ok (.ireturn, 1) := by decide +kernel
theorem dX12_seed_0 : decode cX12_seed 0 = .ok (.aload_n 0, 1) := by decide +kernel
theorem dX12_seed_1 : decode cX12_seed 1 = .ok (.lload_n 1, 1) := by decide +kernel
theorem dX12_seed_2 : decode cX12_seed 2 = .ok (.putfield 495, 3) := by decide +kernel
theorem dX12_seed_5 : decode cX12_seed 5 = .ok (.iconst 1, 1) := by decide +kernel
theorem dX12_seed_6 : decode cX12_seed 6 = .ok (.ireturn, 1) := by decide +kernel
theorem dX12_draw_0 : decode cX12_draw 0 = .ok (.aload_n 0, 1) := by decide +kernel
theorem dX12_draw_1 : decode cX12_draw 1 = .ok (.aload_n 0, 1) := by decide +kernel
theorem dX12_draw_2 : decode cX12_draw 2 = .ok (.getfield 495, 3) := by decide +kernel
theorem dX12_draw_5 : decode cX12_draw 5 = .ok (.ldc2_w 499, 3) := by decide +kernel
theorem dX12_draw_8 : decode cX12_draw 8 = .ok (.lmul, 1) := by decide +kernel
theorem dX12_draw_9 : decode cX12_draw 9 = .ok (.ldc2_w 501, 3) := by decide +kernel
theorem dX12_draw_12 : decode cX12_draw 12 = .ok (.ladd, 1) := by decide +kernel
theorem dX12_draw_13 : decode cX12_draw 13 = .ok (.putfield 495, 3) := by decide +kernel
theorem dX12_draw_16 : decode cX12_draw 16 = .ok (.aload_n 0, 1) := by decide +kernel
theorem dX12_draw_17 : decode cX12_draw 17 = .ok (.getfield 495, 3) := by decide +kernel
theorem dX12_draw_20 : decode cX12_draw 20 = .ok (.bipush 33, 2) := by decide +kernel
theorem dX12_draw_22 : decode cX12_draw 22 = .ok (.lushr, 1) := by decide +kernel
theorem dX12_draw_23 : decode cX12_draw 23 = .ok (.iload_n 1, 1) := by decide +kernel
theorem dX12_draw_24 : decode cX12_draw 24 = .ok (.i2l, 1) := by decide +kernel
theorem dX12_draw_25 : decode cX12_draw 25 = .ok (.lrem, 1) := by decide +kernel
theorem dX12_draw_26 : decode cX12_draw 26 = .ok (.l2i, 1) := by decide +kernel
theorem dX12_draw_27 : decode cX12_draw 27 = .ok (.ireturn, 1) := by decide +kernel
theorem dX12_day_0 : decode cX12_day 0 = .ok (.aload_n 0, 1) := by decide +kernel
theorem dX12_day_1 : decode cX12_day 1 = .ok (.getfield 306, 3) := by decide +kernel
theorem dX12_day_4 : decode cX12_day 4 = .ok (.ifCond .eq 12, 3) := by decide +kernel
theorem dX12_day_7 : decode cX12_day 7 = .ok (.aload_n 0, 1) := by decide +kernel
theorem dX12_day_8 : decode cX12_day 8 = .ok (.getfield 331, 3) := by decide +kernel
theorem dX12_day_11 : decode cX12_day 11 = .ok (.bipush 40, 2) := by decide +kernel
theorem dX12_day_13 : decode cX12_day 13 = .ok (.if_icmp .ne 5, 3) := by decide +kernel
theorem dX12_day_16 : decode cX12_day 16 = .ok (.iconst (-1), 1) := by decide +kernel
theorem dX12_day_17 : decode cX12_day 17 = .ok (.ireturn, 1) := by decide +kernel
theorem dX12_day_18 : decode cX12_day 18 = .ok (.aload_n 0, 1) := by decide +kernel
theorem dX12_day_19 : decode cX12_day 19 = .ok (.getfield 127, 3) := by decide +kernel
theorem dX12_day_22 : decode cX12_day 22 = .ok (.aload_n 0, 1) := by decide +kernel
theorem dX12_day_23 : decode cX12_day 23 = .ok (.getfield 331, 3) := by decide +kernel
theorem dX12_day_26 : decode cX12_day 26 = .ok (.aload_n 0, 1) := by decide +kernel
theorem dX12_day_27 : decode cX12_day 27 = .ok (.getfield 495, 3) := by decide +kernel
theorem dX12_day_30 : decode cX12_day 30 = .ok (.lastore, 1) := by decide +kernel
theorem dX12_day_31 : decode cX12_day 31 = .ok (.aload_n 0, 1) := by decide +kernel
theorem dX12_day_32 : decode cX12_day 32 = .ok (.getfield 133, 3) := by decide +kernel
theorem dX12_day_35 : decode cX12_day 35 = .ok (.aload_n 0, 1) := by decide +kernel
theorem dX12_day_36 : decode cX12_day 36 = .ok (.getfield 331, 3) := by decide +kernel
theorem dX12_day_39 : decode cX12_day 39 = .ok (.aload_n 0, 1) := by decide +kernel
theorem dX12_day_40 : decode cX12_day 40 = .ok (.getfield 49, 3) := by decide +kernel
theorem dX12_day_43 : decode cX12_day 43 = .ok (.invokestatic 402, 3) := by decide +kernel
theorem dX12_day_46 : decode cX12_day 46 = .ok (.iastore, 1) := by decide +kernel
theorem dX12_day_47 : decode cX12_day 47 = .ok (.iconst 0, 1) := by decide +kernel
theorem dX12_day_48 : decode cX12_day 48 = .ok (.istore_n 1, 1) := by decide +kernel
theorem dX12_day_49 : decode cX12_day 49 = .ok (.iload_n 1, 1) := by decide +kernel
theorem dX12_day_50 : decode cX12_day 50 = .ok (.bipush 16, 2) := by decide +kernel
theorem dX12_day_52 : decode cX12_day 52 = .ok (.if_icmp .ge 29, 3) := by decide +kernel
theorem dX12_day_55 : decode cX12_day 55 = .ok (.aload_n 0, 1) := by decide +kernel
theorem dX12_day_56 : decode cX12_day 56 = .ok (.getfield 130, 3) := by decide +kernel
theorem dX12_day_59 : decode cX12_day 59 = .ok (.bipush 16, 2) := by decide +kernel
theorem dX12_day_61 : decode cX12_day 61 = .ok (.aload_n 0, 1) := by decide +kernel
theorem dX12_day_62 : decode cX12_day 62 = .ok (.getfield 331, 3) := by decide +kernel
theorem dX12_day_65 : decode cX12_day 65 = .ok (.imul, 1) := by decide +kernel
theorem dX12_day_66 : decode cX12_day 66 = .ok (.iload_n 1, 1) := by decide +kernel
theorem dX12_day_67 : decode cX12_day 67 = .ok (.iadd, 1) := by decide +kernel
theorem dX12_day_68 : decode cX12_day 68 = .ok (.aload_n 0, 1) := by decide +kernel
theorem dX12_day_69 : decode cX12_day 69 = .ok (.getfield 52, 3) := by decide +kernel
theorem dX12_day_72 : decode cX12_day 72 = .ok (.iload_n 1, 1) := by decide +kernel
theorem dX12_day_73 : decode cX12_day 73 = .ok (.iaload, 1) := by decide +kernel
theorem dX12_day_74 : decode cX12_day 74 = .ok (.iastore, 1) := by decide +kernel
theorem dX12_day_75 : decode cX12_day 75 = .ok (.iinc 1 1, 3) := by decide +kernel
theorem dX12_day_78 : decode cX12_day 78 = .ok (.goto (-29), 3) := by decide +kernel
theorem dX12_day_81 : decode cX12_day 81 = .ok (.aload_n 0, 1) := by decide +kernel
theorem dX12_day_82 : decode cX12_day 82 = .ok (.aload_n 0, 1) := by decide +kernel
theorem dX12_day_83 : decode cX12_day 83 = .ok (.invokevirtual 375, 3) := by decide +kernel
theorem dX12_day_86 : decode cX12_day 86 = .ok (.bipush 100, 2) := by decide +kernel
theorem dX12_day_88 : decode cX12_day 88 = .ok (.idiv, 1) := by decide +kernel
theorem dX12_day_89 : decode cX12_day 89 = .ok (.invokevirtual 503, 3) := by decide +kernel
theorem dX12_day_92 : decode cX12_day 92 = .ok (.istore_n 1, 1) := by decide +kernel
theorem dX12_day_93 : decode cX12_day 93 = .ok (.iconst 0, 1) := by decide +kernel
theorem dX12_day_94 : decode cX12_day 94 = .ok (.istore_n 2, 1) := by decide +kernel
theorem dX12_day_95 : decode cX12_day 95 = .ok (.iload_n 1, 1) := by decide +kernel
theorem dX12_day_96 : decode cX12_day 96 = .ok (.aload_n 0, 1) := by decide +kernel
theorem dX12_day_97 : decode cX12_day 97 = .ok (.iload_n 2, 1) := by decide +kernel
theorem dX12_day_98 : decode cX12_day 98 = .ok (.iconst 0, 1) := by decide +kernel
theorem dX12_day_99 : decode cX12_day 99 = .ok (.invokevirtual 343, 3) := by decide +kernel
theorem dX12_day_102 : decode cX12_day 102 = .ok (.if_icmp .lt 18, 3) := by decide +kernel
theorem dX12_day_105 : decode cX12_day 105 = .ok (.iload_n 1, 1) := by decide +kernel
theorem dX12_day_106 : decode cX12_day 106 = .ok (.aload_n 0, 1) := by decide +kernel
theorem dX12_day_107 : decode cX12_day 107 = .ok (.iload_n 2, 1) := by decide +kernel
theorem dX12_day_108 : decode cX12_day 108 = .ok (.iconst 0, 1) := by decide +kernel
theorem dX12_day_109 : decode cX12_day 109 = .ok (.invokevirtual 343, 3) := by decide +kernel
theorem dX12_day_112 : decode cX12_day 112 = .ok (.isub, 1) := by decide +kernel
theorem dX12_day_113 : decode cX12_day 113 = .ok (.istore_n 1, 1) := by decide +kernel
theorem dX12_day_114 : decode cX12_day 114 = .ok (.iinc 2 1, 3) := by decide +kernel
theorem dX12_day_117 : decode cX12_day 117 = .ok (.goto (-22), 3) := by decide +kernel
theorem dX12_day_120 : decode cX12_day 120 = .ok (.aload_n 0, 1) := by decide +kernel
theorem dX12_day_121 : decode cX12_day 121 = .ok (.getfield 49, 3) := by decide +kernel
theorem dX12_day_124 : decode cX12_day 124 = .ok (.aload_n 0, 1) := by decide +kernel
theorem dX12_day_125 : decode cX12_day 125 = .ok (.iload_n 2, 1) := by decide +kernel
theorem dX12_day_126 : decode cX12_day 126 = .ok (.invokevirtual 366, 3) := by decide +kernel
theorem dX12_day_129 : decode cX12_day 129 = .ok (.iaload, 1) := by decide +kernel
theorem dX12_day_130 : decode cX12_day 130 = .ok (.istore_n 3, 1) := by decide +kernel
theorem dX12_day_131 : decode cX12_day 131 = .ok (.iload_n 3, 1) := by decide +kernel
theorem dX12_day_132 : decode cX12_day 132 = .ok (.ifCond .eq 18, 3) := by decide +kernel
theorem dX12_day_135 : decode cX12_day 135 = .ok (.aload_n 0, 1) := by decide +kernel
theorem dX12_day_136 : decode cX12_day 136 = .ok (.bipush 100, 2) := by decide +kernel
theorem dX12_day_138 : decode cX12_day 138 = .ok (.invokevirtual 503, 3) := by decide +kernel
theorem dX12_day_141 : decode cX12_day 141 = .ok (.aload_n 0, 1) := by decide +kernel
theorem dX12_day_142 : decode cX12_day 142 = .ok (.getfield 312, 3) := by decide +kernel
theorem dX12_day_145 : decode cX12_day 145 = .ok (.if_icmp .ge 5, 3) := by decide +kernel
theorem dX12_day_148 : decode cX12_day 148 = .ok (.iconst 0, 1) := by decide +kernel
theorem dX12_day_149 : decode cX12_day 149 = .ok (.istore_n 3, 1) := by decide +kernel
theorem dX12_day_150 : decode cX12_day 150 = .ok (.iconst 4, 1) := by decide +kernel
theorem dX12_day_151 : decode cX12_day 151 = .ok (.aload_n 0, 1) := by decide +kernel
theorem dX12_day_152 : decode cX12_day 152 = .ok (.iload_n 2, 1) := by decide +kernel
theorem dX12_day_153 : decode cX12_day 153 = .ok (.invokevirtual 369, 3) := by decide +kernel
theorem dX12_day_156 : decode cX12_day 156 = .ok (.imul, 1) := by decide +kernel
theorem dX12_day_157 : decode cX12_day 157 = .ok (.iload_n 3, 1) := by decide +kernel
theorem dX12_day_158 : decode cX12_day 158 = .ok (.iadd, 1) := by decide +kernel
theorem dX12_day_159 : decode cX12_day 159 = .ok (.istore 4, 2) := by decide +kernel
theorem dX12_day_161 : decode cX12_day 161 = .ok (.aload_n 0, 1) := by decide +kernel
theorem dX12_day_162 : decode cX12_day 162 = .ok (.getfield 52, 3) := by decide +kernel
theorem dX12_day_165 : decode cX12_day 165 = .ok (.iload 4, 2) := by decide +kernel
theorem dX12_day_167 : decode cX12_day 167 = .ok (.iaload, 1) := by decide +kernel
theorem dX12_day_168 : decode cX12_day 168 = .ok (.iload_n 2, 1) := by decide +kernel
theorem dX12_day_169 : decode cX12_day 169 = .ok (.if_icmp .ne 7, 3) := by decide +kernel
theorem dX12_day_172 : decode cX12_day 172 = .ok (.iconst 1, 1) := by decide +kernel
theorem dX12_day_173 : decode cX12_day 173 = .ok (.goto 4, 3) := by decide +kernel
theorem dX12_day_176 : decode cX12_day 176 = .ok (.iconst 0, 1) := by decide +kernel
theorem dX12_day_177 : decode cX12_day 177 = .ok (.istore 5, 2) := by decide +kernel
theorem dX12_day_179 : decode cX12_day 179 = .ok (.aload_n 0, 1) := by decide +kernel
theorem dX12_day_180 : decode cX12_day 180 = .ok (.getfield 52, 3) := by decide +kernel
theorem dX12_day_183 : decode cX12_day 183 = .ok (.iload 4, 2) := by decide +kernel
theorem dX12_day_185 : decode cX12_day 185 = .ok (.aload_n 0, 1) := by decide +kernel
theorem dX12_day_186 : decode cX12_day 186 = .ok (.getfield 322, 3) := by decide +kernel
theorem dX12_day_189 : decode cX12_day 189 = .ok (.ifCond .eq 7, 3) := by decide +kernel
theorem dX12_day_192 : decode cX12_day 192 = .ok (.iload_n 2, 1) := by decide +kernel
theorem dX12_day_193 : decode cX12_day 193 = .ok (.goto 10, 3) := by decide +kernel
theorem dX12_day_196 : decode cX12_day 196 = .ok (.aload_n 0, 1) := by decide +kernel
theorem dX12_day_197 : decode cX12_day 197 = .ok (.getfield 52, 3) := by decide +kernel
theorem dX12_day_200 : decode cX12_day 200 = .ok (.iload 4, 2) := by decide +kernel
theorem dX12_day_202 : decode cX12_day 202 = .ok (.iaload, 1) := by decide +kernel
theorem dX12_day_203 : decode cX12_day 203 = .ok (.iastore, 1) := by decide +kernel
theorem dX12_day_204 : decode cX12_day 204 = .ok (.aload_n 0, 1) := by decide +kernel
theorem dX12_day_205 : decode cX12_day 205 = .ok (.getfield 325, 3) := by decide +kernel
theorem dX12_day_208 : decode cX12_day 208 = .ok (.ifCond .eq 35, 3) := by decide +kernel
theorem dX12_day_211 : decode cX12_day 211 = .ok (.iload 5, 2) := by decide +kernel
theorem dX12_day_213 : decode cX12_day 213 = .ok (.ifCond .ne 30, 3) := by decide +kernel
theorem dX12_day_216 : decode cX12_day 216 = .ok (.aload_n 0, 1) := by decide +kernel
theorem dX12_day_217 : decode cX12_day 217 = .ok (.getfield 49, 3) := by decide +kernel
theorem dX12_day_220 : decode cX12_day 220 = .ok (.aload_n 0, 1) := by decide +kernel
theorem dX12_day_221 : decode cX12_day 221 = .ok (.iload_n 2, 1) := by decide +kernel
theorem dX12_day_222 : decode cX12_day 222 = .ok (.invokevirtual 366, 3) := by decide +kernel
theorem dX12_day_225 : decode cX12_day 225 = .ok (.aload_n 0, 1) := by decide +kernel
theorem dX12_day_226 : decode cX12_day 226 = .ok (.getfield 49, 3) := by decide +kernel
theorem dX12_day_229 : decode cX12_day 229 = .ok (.aload_n 0, 1) := by decide +kernel
theorem dX12_day_230 : decode cX12_day 230 = .ok (.iload_n 2, 1) := by decide +kernel
theorem dX12_day_231 : decode cX12_day 231 = .ok (.invokevirtual 366, 3) := by decide +kernel
theorem dX12_day_234 : decode cX12_day 234 = .ok (.iaload, 1) := by decide +kernel
theorem dX12_day_235 : decode cX12_day 235 = .ok (.iconst 1, 1) := by decide +kernel
theorem dX12_day_236 : decode cX12_day 236 = .ok (.iadd, 1) := by decide +kernel
theorem dX12_day_237 : decode cX12_day 237 = .ok (.aload_n 0, 1) := by decide +kernel
theorem dX12_day_238 : decode cX12_day 238 = .ok (.getfield 309, 3) := by decide +kernel
theorem dX12_day_241 : decode cX12_day 241 = .ok (.irem, 1) := by decide +kernel
theorem dX12_day_242 : decode cX12_day 242 = .ok (.iastore, 1) := by decide +kernel
theorem dX12_day_243 : decode cX12_day 243 = .ok (.aload_n 0, 1) := by decide +kernel
theorem dX12_day_244 : decode cX12_day 244 = .ok (.getfield 118, 3) := by decide +kernel
theorem dX12_day_247 : decode cX12_day 247 = .ok (.aload_n 0, 1) := by decide +kernel
theorem dX12_day_248 : decode cX12_day 248 = .ok (.getfield 331, 3) := by decide +kernel
theorem dX12_day_251 : decode cX12_day 251 = .ok (.iload_n 2, 1) := by decide +kernel
theorem dX12_day_252 : decode cX12_day 252 = .ok (.iastore, 1) := by decide +kernel
theorem dX12_day_253 : decode cX12_day 253 = .ok (.aload_n 0, 1) := by decide +kernel
theorem dX12_day_254 : decode cX12_day 254 = .ok (.getfield 121, 3) := by decide +kernel
theorem dX12_day_257 : decode cX12_day 257 = .ok (.aload_n 0, 1) := by decide +kernel
theorem dX12_day_258 : decode cX12_day 258 = .ok (.getfield 331, 3) := by decide +kernel
theorem dX12_day_261 : decode cX12_day 261 = .ok (.iload_n 3, 1) := by decide +kernel
theorem dX12_day_262 : decode cX12_day 262 = .ok (.iastore, 1) := by decide +kernel
theorem dX12_day_263 : decode cX12_day 263 = .ok (.aload_n 0, 1) := by decide +kernel
theorem dX12_day_264 : decode cX12_day 264 = .ok (.getfield 124, 3) := by decide +kernel
theorem dX12_day_267 : decode cX12_day 267 = .ok (.aload_n 0, 1) := by decide +kernel
theorem dX12_day_268 : decode cX12_day 268 = .ok (.getfield 331, 3) := by decide +kernel
theorem dX12_day_271 : decode cX12_day 271 = .ok (.iload 5, 2) := by decide +kernel
theorem dX12_day_273 : decode cX12_day 273 = .ok (.ifCond .eq 11, 3) := by decide +kernel
theorem dX12_day_276 : decode cX12_day 276 = .ok (.aload_n 0, 1) := by decide +kernel
theorem dX12_day_277 : decode cX12_day 277 = .ok (.iload_n 2, 1) := by decide +kernel
theorem dX12_day_278 : decode cX12_day 278 = .ok (.invokevirtual 356, 3) := by decide +kernel
theorem dX12_day_281 : decode cX12_day 281 = .ok (.goto 4, 3) := by decide +kernel
theorem dX12_day_284 : decode cX12_day 284 = .ok (.iconst 0, 1) := by decide +kernel
theorem dX12_day_285 : decode cX12_day 285 = .ok (.iastore, 1) := by decide +kernel
theorem dX12_day_286 : decode cX12_day 286 = .ok (.aload_n 0, 1) := by decide +kernel
theorem dX12_day_287 : decode cX12_day 287 = .ok (.dup, 1) := by decide +kernel
theorem dX12_day_288 : decode cX12_day 288 = .ok (.getfield 331, 3) := by decide +kernel
theorem dX12_day_291 : decode cX12_day 291 = .ok (.iconst 1, 1) := by decide +kernel
theorem dX12_day_292 : decode cX12_day 292 = .ok (.iadd, 1) := by decide +kernel
theorem dX12_day_293 : decode cX12_day 293 = .ok (.putfield 331, 3) := by decide +kernel
theorem dX12_day_296 : decode cX12_day 296 = .ok (.aload_n 0, 1) := by decide +kernel
theorem dX12_day_297 : decode cX12_day 297 = .ok (.getfield 124, 3) := by decide +kernel
theorem dX12_day_300 : decode cX12_day 300 = .ok (.aload_n 0, 1) := by decide +kernel
theorem dX12_day_301 : decode cX12_day 301 = .ok (.getfield 331, 3) := by decide +kernel
theorem dX12_day_304 : decode cX12_day 304 = .ok (.iconst 1, 1) := by decide +kernel
theorem dX12_day_305 : decode cX12_day 305 = .ok (.isub, 1) := by decide +kernel
theorem dX12_day_306 : decode cX12_day 306 = .ok (.iaload, 1) := by decide +kernel
theorem dX12_day_307 : decode cX12_day 307 = .ok (.ireturn, 1) := by decide +kernel
theorem dX12_was_0 : decode cX12_was 0 = .ok (.iload_n 1, 1) := by decide +kernel
theorem dX12_was_1 : decode cX12_was 1 = .ok (.iconst 0, 1) := by decide +kernel
theorem dX12_was_2 : decode cX12_was 2 = .ok (.aload_n 0, 1) := by decide +kernel
theorem dX12_was_3 : decode cX12_was 3 = .ok (.getfield 331, 3) := by decide +kernel
theorem dX12_was_6 : decode cX12_was 6 = .ok (.iconst 1, 1) := by decide +kernel
theorem dX12_was_7 : decode cX12_was 7 = .ok (.isub, 1) := by decide +kernel
theorem dX12_was_8 : decode cX12_was 8 = .ok (.invokestatic 269, 3) := by decide +kernel
theorem dX12_was_11 : decode cX12_was 11 = .ok (.ifCond .eq 12, 3) := by decide +kernel
theorem dX12_was_14 : decode cX12_was 14 = .ok (.iload_n 2, 1) := by decide +kernel
theorem dX12_was_15 : decode cX12_was 15 = .ok (.iconst 0, 1) := by decide +kernel
theorem dX12_was_16 : decode cX12_was 16 = .ok (.iconst 2, 1) := by decide +kernel
theorem dX12_was_17 : decode cX12_was 17 = .ok (.invokestatic 269, 3) := by decide +kernel
theorem dX12_was_20 : decode cX12_was 20 = .ok (.ifCond .ne 7, 3) := by decide +kernel
theorem dX12_was_23 : decode cX12_was 23 = .ok (.iconst (-1), 1) := by decide +kernel
theorem dX12_was_24 : decode cX12_was 24 = .ok (.goto 36, 3) := by decide +kernel
theorem dX12_was_27 : decode cX12_was 27 = .ok (.iload_n 2, 1) := by decide +kernel
theorem dX12_was_28 : decode cX12_was 28 = .ok (.ifCond .ne 12, 3) := by decide +kernel
theorem dX12_was_31 : decode cX12_was 31 = .ok (.aload_n 0, 1) := by decide +kernel
theorem dX12_was_32 : decode cX12_was 32 = .ok (.getfield 118, 3) := by decide +kernel
theorem dX12_was_35 : decode cX12_was 35 = .ok (.iload_n 1, 1) := by decide +kernel
theorem dX12_was_36 : decode cX12_was 36 = .ok (.iaload, 1) := by decide +kernel
theorem dX12_was_37 : decode cX12_was 37 = .ok (.goto 23, 3) := by decide +kernel
theorem dX12_was_40 : decode cX12_was 40 = .ok (.iload_n 2, 1) := by decide +kernel
theorem dX12_was_41 : decode cX12_was 41 = .ok (.iconst 1, 1) := by decide +kernel
theorem dX12_was_42 : decode cX12_was 42 = .ok (.if_icmp .ne 12, 3) := by decide +kernel
theorem dX12_was_45 : decode cX12_was 45 = .ok (.aload_n 0, 1) := by decide +kernel
theorem dX12_was_46 : decode cX12_was 46 = .ok (.getfield 121, 3) := by decide +kernel
theorem dX12_was_49 : decode cX12_was 49 = .ok (.iload_n 1, 1) := by decide +kernel
theorem dX12_was_50 : decode cX12_was 50 = .ok (.iaload, 1) := by decide +kernel
theorem dX12_was_51 : decode cX12_was 51 = .ok (.goto 9, 3) := by decide +kernel
theorem dX12_was_54 : decode cX12_was 54 = .ok (.aload_n 0, 1) := by decide +kernel
theorem dX12_was_55 : decode cX12_was 55 = .ok (.getfield 124, 3) := by decide +kernel
theorem dX12_was_58 : decode cX12_was 58 = .ok (.iload_n 1, 1) := by decide +kernel
theorem dX12_was_59 : decode cX12_was 59 = .ok (.iaload, 1) := by decide +kernel
theorem dX12_was_60 : decode cX12_was 60 = .ok (.ireturn, 1) := by decide +kernel
theorem dX12_undo_0 : decode cX12_undo 0 = .ok (.aload_n 0, 1) := by decide +kernel
theorem dX12_undo_1 : decode cX12_undo 1 = .ok (.getfield 331, 3) := by decide +kernel
theorem dX12_undo_4 : decode cX12_undo 4 = .ok (.ifCond .ne 5, 3) := by decide +kernel
theorem dX12_undo_7 : decode cX12_undo 7 = .ok (.iconst (-1), 1) := by decide +kernel
theorem dX12_undo_8 : decode cX12_undo 8 = .ok (.ireturn, 1) := by decide +kernel
theorem dX12_undo_9 : decode cX12_undo 9 = .ok (.aload_n 0, 1) := by decide +kernel
theorem dX12_undo_10 : decode cX12_undo 10 = .ok (.dup, 1) := by decide +kernel
theorem dX12_undo_11 : decode cX12_undo 11 = .ok (.getfield 331, 3) := by decide +kernel
theorem dX12_undo_14 : decode cX12_undo 14 = .ok (.iconst 1, 1) := by decide +kernel
theorem dX12_undo_15 : decode cX12_undo 15 = .ok (.isub, 1) := by decide +kernel
theorem dX12_undo_16 : decode cX12_undo 16 = .ok (.putfield 331, 3) := by decide +kernel
theorem dX12_undo_19 : decode cX12_undo 19 = .ok (.aload_n 0, 1) := by decide +kernel
theorem dX12_undo_20 : decode cX12_undo 20 = .ok (.aload_n 0, 1) := by decide +kernel
theorem dX12_undo_21 : decode cX12_undo 21 = .ok (.getfield 127, 3) := by decide +kernel
theorem dX12_undo_24 : decode cX12_undo 24 = .ok (.aload_n 0, 1) := by decide +kernel
theorem dX12_undo_25 : decode cX12_undo 25 = .ok (.getfield 331, 3) := by decide +kernel
theorem dX12_undo_28 : decode cX12_undo 28 = .ok (.laload, 1) := by decide +kernel
theorem dX12_undo_29 : decode cX12_undo 29 = .ok (.putfield 495, 3) := by decide +kernel
theorem dX12_undo_32 : decode cX12_undo 32 = .ok (.aload_n 0, 1) := by decide +kernel
theorem dX12_undo_33 : decode cX12_undo 33 = .ok (.getfield 133, 3) := by decide +kernel
theorem dX12_undo_36 : decode cX12_undo 36 = .ok (.aload_n 0, 1) := by decide +kernel
theorem dX12_undo_37 : decode cX12_undo 37 = .ok (.getfield 331, 3) := by decide +kernel
theorem dX12_undo_40 : decode cX12_undo 40 = .ok (.iaload, 1) := by decide +kernel
theorem dX12_undo_41 : decode cX12_undo 41 = .ok (.iconst 4, 1) := by decide +kernel
theorem dX12_undo_42 : decode cX12_undo 42 = .ok (.aload_n 0, 1) := by decide +kernel
theorem dX12_undo_43 : decode cX12_undo 43 = .ok (.getfield 49, 3) := by decide +kernel
theorem dX12_undo_46 : decode cX12_undo 46 = .ok (.invokestatic 359, 3) := by decide +kernel
theorem dX12_undo_49 : decode cX12_undo 49 = .ok (.pop, 1) := by decide +kernel
theorem dX12_undo_50 : decode cX12_undo 50 = .ok (.iconst 0, 1) := by decide +kernel
theorem dX12_undo_51 : decode cX12_undo 51 = .ok (.istore_n 1, 1) := by decide +kernel
theorem dX12_undo_52 : decode cX12_undo 52 = .ok (.iload_n 1, 1) := by decide +kernel
theorem dX12_undo_53 : decode cX12_undo 53 = .ok (.bipush 16, 2) := by decide +kernel
theorem dX12_undo_55 : decode cX12_undo 55 = .ok (.if_icmp .ge 29, 3) := by decide +kernel
theorem dX12_undo_58 : decode cX12_undo 58 = .ok (.aload_n 0, 1) := by decide +kernel
theorem dX12_undo_59 : decode cX12_undo 59 = .ok (.getfield 52, 3) := by decide +kernel
theorem dX12_undo_62 : decode cX12_undo 62 = .ok (.iload_n 1, 1) := by decide +kernel
theorem dX12_undo_63 : decode cX12_undo 63 = .ok (.aload_n 0, 1) := by decide +kernel
theorem dX12_undo_64 : decode cX12_undo 64 = .ok (.getfield 130, 3) := by decide +kernel
theorem dX12_undo_67 : decode cX12_undo 67 = .ok (.bipush 16, 2) := by decide +kernel
theorem dX12_undo_69 : decode cX12_undo 69 = .ok (.aload_n 0, 1) := by decide +kernel
theorem dX12_undo_70 : decode cX12_undo 70 = .ok (.getfield 331, 3) := by decide +kernel
theorem dX12_undo_73 : decode cX12_undo 73 = .ok (.imul, 1) := by decide +kernel
theorem dX12_undo_74 : decode cX12_undo 74 = .ok (.iload_n 1, 1) := by decide +kernel
theorem dX12_undo_75 : decode cX12_undo 75 = .ok (.iadd, 1) := by decide +kernel
theorem dX12_undo_76 : decode cX12_undo 76 = .ok (.iaload, 1) := by decide +kernel
theorem dX12_undo_77 : decode cX12_undo 77 = .ok (.iastore, 1) := by decide +kernel
theorem dX12_undo_78 : decode cX12_undo 78 = .ok (.iinc 1 1, 3) := by decide +kernel
theorem dX12_undo_81 : decode cX12_undo 81 = .ok (.goto (-29), 3) := by decide +kernel
theorem dX12_undo_84 : decode cX12_undo 84 = .ok (.aload_n 0, 1) := by decide +kernel
theorem dX12_undo_85 : decode cX12_undo 85 = .ok (.getfield 331, 3) := by decide +kernel
theorem dX12_undo_88 : decode cX12_undo 88 = .ok (.ireturn, 1) := by decide +kernel
theorem dX12_image_0 : decode cX12_image 0 = .ok (.aload_n 0, 1) := by decide +kernel
theorem dX12_image_1 : decode cX12_image 1 = .ok (.getfield 306, 3) := by decide +kernel
theorem dX12_image_4 : decode cX12_image 4 = .ok (.ifCond .ne 5, 3) := by decide +kernel
theorem dX12_image_7 : decode cX12_image 7 = .ok (.iconst (-1), 1) := by decide +kernel
theorem dX12_image_8 : decode cX12_image 8 = .ok (.ireturn, 1) := by decide +kernel
theorem dX12_image_9 : decode cX12_image 9 = .ok (.iconst 0, 1) := by decide +kernel
theorem dX12_image_10 : decode cX12_image 10 = .ok (.istore_n 1, 1) := by decide +kernel
theorem dX12_image_11 : decode cX12_image 11 = .ok (.iload_n 1, 1) := by decide +kernel
theorem dX12_image_12 : decode cX12_image 12 = .ok (.iconst 4, 1) := by decide +kernel
theorem dX12_image_13 : decode cX12_image 13 = .ok (.if_icmp .ge 21, 3) := by decide +kernel
theorem dX12_image_16 : decode cX12_image 16 = .ok (.aload_n 0, 1) := by decide +kernel
theorem dX12_image_17 : decode cX12_image 17 = .ok (.getfield 136, 3) := by decide +kernel
theorem dX12_image_20 : decode cX12_image 20 = .ok (.iload_n 1, 1) := by decide +kernel
theorem dX12_image_21 : decode cX12_image 21 = .ok (.aload_n 0, 1) := by decide +kernel
theorem dX12_image_22 : decode cX12_image 22 = .ok (.getfield 49, 3) := by decide +kernel
theorem dX12_image_25 : decode cX12_image 25 = .ok (.iload_n 1, 1) := by decide +kernel
theorem dX12_image_26 : decode cX12_image 26 = .ok (.iaload, 1) := by decide +kernel
theorem dX12_image_27 : decode cX12_image 27 = .ok (.iastore, 1) := by decide +kernel
theorem dX12_image_28 : decode cX12_image 28 = .ok (.iinc 1 1, 3) := by decide +kernel
theorem dX12_image_31 : decode cX12_image 31 = .ok (.goto (-20), 3) := by decide +kernel
theorem dX12_image_34 : decode cX12_image 34 = .ok (.iconst 0, 1) := by decide +kernel
theorem dX12_image_35 : decode cX12_image 35 = .ok (.istore_n 1, 1) := by decide +kernel
theorem dX12_image_36 : decode cX12_image 36 = .ok (.iload_n 1, 1) := by decide +kernel
theorem dX12_image_37 : decode cX12_image 37 = .ok (.bipush 16, 2) := by decide +kernel
theorem dX12_image_39 : decode cX12_image 39 = .ok (.if_icmp .ge 21, 3) := by decide +kernel
theorem dX12_image_42 : decode cX12_image 42 = .ok (.aload_n 0, 1) := by decide +kernel
theorem dX12_image_43 : decode cX12_image 43 = .ok (.getfield 139, 3) := by decide +kernel
theorem dX12_image_46 : decode cX12_image 46 = .ok (.iload_n 1, 1) := by decide +kernel
theorem dX12_image_47 : decode cX12_image 47 = .ok (.aload_n 0, 1) := by decide +kernel
theorem dX12_image_48 : decode cX12_image 48 = .ok (.getfield 52, 3) := by decide +kernel
theorem dX12_image_51 : decode cX12_image 51 = .ok (.iload_n 1, 1) := by decide +kernel
theorem dX12_image_52 : decode cX12_image 52 = .ok (.iaload, 1) := by decide +kernel
theorem dX12_image_53 : decode cX12_image 53 = .ok (.iastore, 1) := by decide +kernel
theorem dX12_image_54 : decode cX12_image 54 = .ok (.iinc 1 1, 3) := by decide +kernel
theorem dX12_image_57 : decode cX12_image 57 = .ok (.goto (-21), 3) := by decide +kernel
theorem dX12_image_60 : decode cX12_image 60 = .ok (.iconst 0, 1) := by decide +kernel
theorem dX12_image_61 : decode cX12_image 61 = .ok (.istore_n 1, 1) := by decide +kernel
theorem dX12_image_62 : decode cX12_image 62 = .ok (.iload_n 1, 1) := by decide +kernel
theorem dX12_image_63 : decode cX12_image 63 = .ok (.bipush 40, 2) := by decide +kernel
theorem dX12_image_65 : decode cX12_image 65 = .ok (.if_icmp .ge 79, 3) := by decide +kernel
theorem dX12_image_68 : decode cX12_image 68 = .ok (.aload_n 0, 1) := by decide +kernel
theorem dX12_image_69 : decode cX12_image 69 = .ok (.getfield 142, 3) := by decide +kernel
theorem dX12_image_72 : decode cX12_image 72 = .ok (.iconst 3, 1) := by decide +kernel
theorem dX12_image_73 : decode cX12_image 73 = .ok (.iload_n 1, 1) := by decide +kernel
theorem dX12_image_74 : decode cX12_image 74 = .ok (.imul, 1) := by decide +kernel
theorem dX12_image_75 : decode cX12_image 75 = .ok (.aload_n 0, 1) := by decide +kernel
theorem dX12_image_76 : decode cX12_image 76 = .ok (.getfield 118, 3) := by decide +kernel
theorem dX12_image_79 : decode cX12_image 79 = .ok (.iload_n 1, 1) := by decide +kernel
theorem dX12_image_80 : decode cX12_image 80 = .ok (.iaload, 1) := by decide +kernel
theorem dX12_image_81 : decode cX12_image 81 = .ok (.iastore, 1) := by decide +kernel
theorem dX12_image_82 : decode cX12_image 82 = .ok (.aload_n 0, 1) := by decide +kernel
theorem dX12_image_83 : decode cX12_image 83 = .ok (.getfield 142, 3) := by decide +kernel
theorem dX12_image_86 : decode cX12_image 86 = .ok (.iconst 3, 1) := by decide +kernel
theorem dX12_image_87 : decode cX12_image 87 = .ok (.iload_n 1, 1) := by decide +kernel
theorem dX12_image_88 : decode cX12_image 88 = .ok (.imul, 1) := by decide +kernel
theorem dX12_image_89 : decode cX12_image 89 = .ok (.iconst 1, 1) := by decide +kernel
theorem dX12_image_90 : decode cX12_image 90 = .ok (.iadd, 1) := by decide +kernel
theorem dX12_image_91 : decode cX12_image 91 = .ok (.aload_n 0, 1) := by decide +kernel
theorem dX12_image_92 : decode cX12_image 92 = .ok (.getfield 121, 3) := by decide +kernel
theorem dX12_image_95 : decode cX12_image 95 = .ok (.iload_n 1, 1) := by decide +kernel
theorem dX12_image_96 : decode cX12_image 96 = .ok (.iaload, 1) := by decide +kernel
theorem dX12_image_97 : decode cX12_image 97 = .ok (.iastore, 1) := by decide +kernel
theorem dX12_image_98 : decode cX12_image 98 = .ok (.aload_n 0, 1) := by decide +kernel
theorem dX12_image_99 : decode cX12_image 99 = .ok (.getfield 142, 3) := by decide +kernel
theorem dX12_image_102 : decode cX12_image 102 = .ok (.iconst 3, 1) := by decide +kernel
theorem dX12_image_103 : decode cX12_image 103 = .ok (.iload_n 1, 1) := by decide +kernel
theorem dX12_image_104 : decode cX12_image 104 = .ok (.imul, 1) := by decide +kernel
theorem dX12_image_105 : decode cX12_image 105 = .ok (.iconst 2, 1) := by decide +kernel
theorem dX12_image_106 : decode cX12_image 106 = .ok (.iadd, 1) := by decide +kernel
theorem dX12_image_107 : decode cX12_image 107 = .ok (.aload_n 0, 1) := by decide +kernel
theorem dX12_image_108 : decode cX12_image 108 = .ok (.getfield 124, 3) := by decide +kernel
theorem dX12_image_111 : decode cX12_image 111 = .ok (.iload_n 1, 1) := by decide +kernel
theorem dX12_image_112 : decode cX12_image 112 = .ok (.iaload, 1) := by decide +kernel
theorem dX12_image_113 : decode cX12_image 113 = .ok (.iastore, 1) := by decide +kernel
theorem dX12_image_114 : decode cX12_image 114 = .ok (.aload_n 0, 1) := by decide +kernel
theorem dX12_image_115 : decode cX12_image 115 = .ok (.getfield 148, 3) := by decide +kernel
theorem dX12_image_118 : decode cX12_image 118 = .ok (.iload_n 1, 1) := by decide +kernel
theorem dX12_image_119 : decode cX12_image 119 = .ok (.aload_n 0, 1) := by decide +kernel
theorem dX12_image_120 : decode cX12_image 120 = .ok (.getfield 127, 3) := by decide +kernel
theorem dX12_image_123 : decode cX12_image 123 = .ok (.iload_n 1, 1) := by decide +kernel
theorem dX12_image_124 : decode cX12_image 124 = .ok (.laload, 1) := by decide +kernel
theorem dX12_image_125 : decode cX12_image 125 = .ok (.lastore, 1) := by decide +kernel
theorem dX12_image_126 : decode cX12_image 126 = .ok (.aload_n 0, 1) := by decide +kernel
theorem dX12_image_127 : decode cX12_image 127 = .ok (.getfield 151, 3) := by decide +kernel
theorem dX12_image_130 : decode cX12_image 130 = .ok (.iload_n 1, 1) := by decide +kernel
theorem dX12_image_131 : decode cX12_image 131 = .ok (.aload_n 0, 1) := by decide +kernel
theorem dX12_image_132 : decode cX12_image 132 = .ok (.getfield 133, 3) := by decide +kernel
theorem dX12_image_135 : decode cX12_image 135 = .ok (.iload_n 1, 1) := by decide +kernel
theorem dX12_image_136 : decode cX12_image 136 = .ok (.iaload, 1) := by decide +kernel
theorem dX12_image_137 : decode cX12_image 137 = .ok (.iastore, 1) := by decide +kernel
theorem dX12_image_138 : decode cX12_image 138 = .ok (.iinc 1 1, 3) := by decide +kernel
theorem dX12_image_141 : decode cX12_image 141 = .ok (.goto (-79), 3) := by decide +kernel
theorem dX12_image_144 : decode cX12_image 144 = .ok (.iconst 0, 1) := by decide +kernel
theorem dX12_image_145 : decode cX12_image 145 = .ok (.istore_n 1, 1) := by decide +kernel
theorem dX12_image_146 : decode cX12_image 146 = .ok (.iload_n 1, 1) := by decide +kernel
theorem dX12_image_147 : decode cX12_image 147 = .ok (.sipush 640, 3) := by decide +kernel
theorem dX12_image_150 : decode cX12_image 150 = .ok (.if_icmp .ge 21, 3) := by decide +kernel
theorem dX12_image_153 : decode cX12_image 153 = .ok (.aload_n 0, 1) := by decide +kernel
theorem dX12_image_154 : decode cX12_image 154 = .ok (.getfield 145, 3) := by decide +kernel
theorem dX12_image_157 : decode cX12_image 157 = .ok (.iload_n 1, 1) := by decide +kernel
theorem dX12_image_158 : decode cX12_image 158 = .ok (.aload_n 0, 1) := by decide +kernel
theorem dX12_image_159 : decode cX12_image 159 = .ok (.getfield 130, 3) := by decide +kernel
theorem dX12_image_162 : decode cX12_image 162 = .ok (.iload_n 1, 1) := by decide +kernel
theorem dX12_image_163 : decode cX12_image 163 = .ok (.iaload, 1) := by decide +kernel
theorem dX12_image_164 : decode cX12_image 164 = .ok (.iastore, 1) := by decide +kernel
theorem dX12_image_165 : decode cX12_image 165 = .ok (.iinc 1 1, 3) := by decide +kernel
theorem dX12_image_168 : decode cX12_image 168 = .ok (.goto (-22), 3) := by decide +kernel
theorem dX12_image_171 : decode cX12_image 171 = .ok (.aload_n 0, 1) := by decide +kernel
theorem dX12_image_172 : decode cX12_image 172 = .ok (.aload_n 0, 1) := by decide +kernel
theorem dX12_image_173 : decode cX12_image 173 = .ok (.getfield 315, 3) := by decide +kernel
theorem dX12_image_176 : decode cX12_image 176 = .ok (.putfield 506, 3) := by decide +kernel
theorem dX12_image_179 : decode cX12_image 179 = .ok (.aload_n 0, 1) := by decide +kernel
theorem dX12_image_180 : decode cX12_image 180 = .ok (.aload_n 0, 1) := by decide +kernel
theorem dX12_image_181 : decode cX12_image 181 = .ok (.getfield 319, 3) := by decide +kernel
theorem dX12_image_184 : decode cX12_image 184 = .ok (.putfield 509, 3) := by decide +kernel
theorem dX12_image_187 : decode cX12_image 187 = .ok (.aload_n 0, 1) := by decide +kernel
theorem dX12_image_188 : decode cX12_image 188 = .ok (.aload_n 0, 1) := by decide +kernel
theorem dX12_image_189 : decode cX12_image 189 = .ok (.getfield 331, 3) := by decide +kernel
theorem dX12_image_192 : decode cX12_image 192 = .ok (.putfield 512, 3) := by decide +kernel
theorem dX12_image_195 : decode cX12_image 195 = .ok (.aload_n 0, 1) := by decide +kernel
theorem dX12_image_196 : decode cX12_image 196 = .ok (.aload_n 0, 1) := by decide +kernel
theorem dX12_image_197 : decode cX12_image 197 = .ok (.getfield 312, 3) := by decide +kernel
theorem dX12_image_200 : decode cX12_image 200 = .ok (.putfield 515, 3) := by decide +kernel
theorem dX12_image_203 : decode cX12_image 203 = .ok (.aload_n 0, 1) := by decide +kernel
theorem dX12_image_204 : decode cX12_image 204 = .ok (.aload_n 0, 1) := by decide +kernel
theorem dX12_image_205 : decode cX12_image 205 = .ok (.getfield 495, 3) := by decide +kernel
theorem dX12_image_208 : decode cX12_image 208 = .ok (.putfield 518, 3) := by decide +kernel
theorem dX12_image_211 : decode cX12_image 211 = .ok (.aload_n 0, 1) := by decide +kernel
theorem dX12_image_212 : decode cX12_image 212 = .ok (.iconst 1, 1) := by decide +kernel
theorem dX12_image_213 : decode cX12_image 213 = .ok (.putfield 334, 3) := by decide +kernel
theorem dX12_image_216 : decode cX12_image 216 = .ok (.aload_n 0, 1) := by decide +kernel
theorem dX12_image_217 : decode cX12_image 217 = .ok (.getfield 331, 3) := by decide +kernel
theorem dX12_image_220 : decode cX12_image 220 = .ok (.ireturn, 1) := by decide +kernel
theorem dX12_back_0 : decode cX12_back 0 = .ok (.aload_n 0, 1) := by decide +kernel
theorem dX12_back_1 : decode cX12_back 1 = .ok (.getfield 334, 3) := by decide +kernel
theorem dX12_back_4 : decode cX12_back 4 = .ok (.ifCond .ne 5, 3) := by decide +kernel
theorem dX12_back_7 : decode cX12_back 7 = .ok (.iconst (-1), 1) := by decide +kernel
theorem dX12_back_8 : decode cX12_back 8 = .ok (.ireturn, 1) := by decide +kernel
theorem dX12_back_9 : decode cX12_back 9 = .ok (.iconst 0, 1) := by decide +kernel
theorem dX12_back_10 : decode cX12_back 10 = .ok (.istore_n 1, 1) := by decide +kernel
theorem dX12_back_11 : decode cX12_back 11 = .ok (.iload_n 1, 1) := by decide +kernel
theorem dX12_back_12 : decode cX12_back 12 = .ok (.iconst 4, 1) := by decide +kernel
theorem dX12_back_13 : decode cX12_back 13 = .ok (.if_icmp .ge 21, 3) := by decide +kernel
theorem dX12_back_16 : decode cX12_back 16 = .ok (.aload_n 0, 1) := by decide +kernel
theorem dX12_back_17 : decode cX12_back 17 = .ok (.getfield 49, 3) := by decide +kernel
theorem dX12_back_20 : decode cX12_back 20 = .ok (.iload_n 1, 1) := by decide +kernel
theorem dX12_back_21 : decode cX12_back 21 = .ok (.aload_n 0, 1) := by decide +kernel
theorem dX12_back_22 : decode cX12_back 22 = .ok (.getfield 136, 3) := by decide +kernel
theorem dX12_back_25 : decode cX12_back 25 = .ok (.iload_n 1, 1) := by decide +kernel
theorem dX12_back_26 : decode cX12_back 26 = .ok (.iaload, 1) := by decide +kernel
theorem dX12_back_27 : decode cX12_back 27 = .ok (.iastore, 1) := by decide +kernel
theorem dX12_back_28 : decode cX12_back 28 = .ok (.iinc 1 1, 3) := by decide +kernel
theorem dX12_back_31 : decode cX12_back 31 = .ok (.goto (-20), 3) := by decide +kernel
theorem dX12_back_34 : decode cX12_back 34 = .ok (.iconst 0, 1) := by decide +kernel
theorem dX12_back_35 : decode cX12_back 35 = .ok (.istore_n 1, 1) := by decide +kernel
theorem dX12_back_36 : decode cX12_back 36 = .ok (.iload_n 1, 1) := by decide +kernel
theorem dX12_back_37 : decode cX12_back 37 = .ok (.bipush 16, 2) := by decide +kernel
theorem dX12_back_39 : decode cX12_back 39 = .ok (.if_icmp .ge 21, 3) := by decide +kernel
theorem dX12_back_42 : decode cX12_back 42 = .ok (.aload_n 0, 1) := by decide +kernel
theorem dX12_back_43 : decode cX12_back 43 = .ok (.getfield 52, 3) := by decide +kernel
theorem dX12_back_46 : decode cX12_back 46 = .ok (.iload_n 1, 1) := by decide +kernel
theorem dX12_back_47 : decode cX12_back 47 = .ok (.aload_n 0, 1) := by decide +kernel
theorem dX12_back_48 : decode cX12_back 48 = .ok (.getfield 139, 3) := by decide +kernel
theorem dX12_back_51 : decode cX12_back 51 = .ok (.iload_n 1, 1) := by decide +kernel
theorem dX12_back_52 : decode cX12_back 52 = .ok (.iaload, 1) := by decide +kernel
theorem dX12_back_53 : decode cX12_back 53 = .ok (.iastore, 1) := by decide +kernel
theorem dX12_back_54 : decode cX12_back 54 = .ok (.iinc 1 1, 3) := by decide +kernel
theorem dX12_back_57 : decode cX12_back 57 = .ok (.goto (-21), 3) := by decide +kernel
theorem dX12_back_60 : decode cX12_back 60 = .ok (.iconst 0, 1) := by decide +kernel
theorem dX12_back_61 : decode cX12_back 61 = .ok (.istore_n 1, 1) := by decide +kernel
theorem dX12_back_62 : decode cX12_back 62 = .ok (.iload_n 1, 1) := by decide +kernel
theorem dX12_back_63 : decode cX12_back 63 = .ok (.bipush 40, 2) := by decide +kernel
theorem dX12_back_65 : decode cX12_back 65 = .ok (.if_icmp .ge 79, 3) := by decide +kernel
theorem dX12_back_68 : decode cX12_back 68 = .ok (.aload_n 0, 1) := by decide +kernel
theorem dX12_back_69 : decode cX12_back 69 = .ok (.getfield 118, 3) := by decide +kernel
theorem dX12_back_72 : decode cX12_back 72 = .ok (.iload_n 1, 1) := by decide +kernel
theorem dX12_back_73 : decode cX12_back 73 = .ok (.aload_n 0, 1) := by decide +kernel
theorem dX12_back_74 : decode cX12_back 74 = .ok (.getfield 142, 3) := by decide +kernel
theorem dX12_back_77 : decode cX12_back 77 = .ok (.iconst 3, 1) := by decide +kernel
theorem dX12_back_78 : decode cX12_back 78 = .ok (.iload_n 1, 1) := by decide +kernel
theorem dX12_back_79 : decode cX12_back 79 = .ok (.imul, 1) := by decide +kernel
theorem dX12_back_80 : decode cX12_back 80 = .ok (.iaload, 1) := by decide +kernel
theorem dX12_back_81 : decode cX12_back 81 = .ok (.iastore, 1) := by decide +kernel
theorem dX12_back_82 : decode cX12_back 82 = .ok (.aload_n 0, 1) := by decide +kernel
theorem dX12_back_83 : decode cX12_back 83 = .ok (.getfield 121, 3) := by decide +kernel
theorem dX12_back_86 : decode cX12_back 86 = .ok (.iload_n 1, 1) := by decide +kernel
theorem dX12_back_87 : decode cX12_back 87 = .ok (.aload_n 0, 1) := by decide +kernel
theorem dX12_back_88 : decode cX12_back 88 = .ok (.getfield 142, 3) := by decide +kernel
theorem dX12_back_91 : decode cX12_back 91 = .ok (.iconst 3, 1) := by decide +kernel
theorem dX12_back_92 : decode cX12_back 92 = .ok (.iload_n 1, 1) := by decide +kernel
theorem dX12_back_93 : decode cX12_back 93 = .ok (.imul, 1) := by decide +kernel
theorem dX12_back_94 : decode cX12_back 94 = .ok (.iconst 1, 1) := by decide +kernel
theorem dX12_back_95 : decode cX12_back 95 = .ok (.iadd, 1) := by decide +kernel
theorem dX12_back_96 : decode cX12_back 96 = .ok (.iaload, 1) := by decide +kernel
theorem dX12_back_97 : decode cX12_back 97 = .ok (.iastore, 1) := by decide +kernel
theorem dX12_back_98 : decode cX12_back 98 = .ok (.aload_n 0, 1) := by decide +kernel
theorem dX12_back_99 : decode cX12_back 99 = .ok (.getfield 124, 3) := by decide +kernel
theorem dX12_back_102 : decode cX12_back 102 = .ok (.iload_n 1, 1) := by decide +kernel
theorem dX12_back_103 : decode cX12_back 103 = .ok (.aload_n 0, 1) := by decide +kernel
theorem dX12_back_104 : decode cX12_back 104 = .ok (.getfield 142, 3) := by decide +kernel
theorem dX12_back_107 : decode cX12_back 107 = .ok (.iconst 3, 1) := by decide +kernel
theorem dX12_back_108 : decode cX12_back 108 = .ok (.iload_n 1, 1) := by decide +kernel
theorem dX12_back_109 : decode cX12_back 109 = .ok (.imul, 1) := by decide +kernel
theorem dX12_back_110 : decode cX12_back 110 = .ok (.iconst 2, 1) := by decide +kernel
theorem dX12_back_111 : decode cX12_back 111 = .ok (.iadd, 1) := by decide +kernel
theorem dX12_back_112 : decode cX12_back 112 = .ok (.iaload, 1) := by decide +kernel
theorem dX12_back_113 : decode cX12_back 113 = .ok (.iastore, 1) := by decide +kernel
theorem dX12_back_114 : decode cX12_back 114 = .ok (.aload_n 0, 1) := by decide +kernel
theorem dX12_back_115 : decode cX12_back 115 = .ok (.getfield 127, 3) := by decide +kernel
theorem dX12_back_118 : decode cX12_back 118 = .ok (.iload_n 1, 1) := by decide +kernel
theorem dX12_back_119 : decode cX12_back 119 = .ok (.aload_n 0, 1) := by decide +kernel
theorem dX12_back_120 : decode cX12_back 120 = .ok (.getfield 148, 3) := by decide +kernel
theorem dX12_back_123 : decode cX12_back 123 = .ok (.iload_n 1, 1) := by decide +kernel
theorem dX12_back_124 : decode cX12_back 124 = .ok (.laload, 1) := by decide +kernel
theorem dX12_back_125 : decode cX12_back 125 = .ok (.lastore, 1) := by decide +kernel
theorem dX12_back_126 : decode cX12_back 126 = .ok (.aload_n 0, 1) := by decide +kernel
theorem dX12_back_127 : decode cX12_back 127 = .ok (.getfield 133, 3) := by decide +kernel
theorem dX12_back_130 : decode cX12_back 130 = .ok (.iload_n 1, 1) := by decide +kernel
theorem dX12_back_131 : decode cX12_back 131 = .ok (.aload_n 0, 1) := by decide +kernel
theorem dX12_back_132 : decode cX12_back 132 = .ok (.getfield 151, 3) := by decide +kernel
theorem dX12_back_135 : decode cX12_back 135 = .ok (.iload_n 1, 1) := by decide +kernel
theorem dX12_back_136 : decode cX12_back 136 = .ok (.iaload, 1) := by decide +kernel
theorem dX12_back_137 : decode cX12_back 137 = .ok (.iastore, 1) := by decide +kernel
theorem dX12_back_138 : decode cX12_back 138 = .ok (.iinc 1 1, 3) := by decide +kernel
theorem dX12_back_141 : decode cX12_back 141 = .ok (.goto (-79), 3) := by decide +kernel
theorem dX12_back_144 : decode cX12_back 144 = .ok (.iconst 0, 1) := by decide +kernel
theorem dX12_back_145 : decode cX12_back 145 = .ok (.istore_n 1, 1) := by decide +kernel
theorem dX12_back_146 : decode cX12_back 146 = .ok (.iload_n 1, 1) := by decide +kernel
theorem dX12_back_147 : decode cX12_back 147 = .ok (.sipush 640, 3) := by decide +kernel
theorem dX12_back_150 : decode cX12_back 150 = .ok (.if_icmp .ge 21, 3) := by decide +kernel
theorem dX12_back_153 : decode cX12_back 153 = .ok (.aload_n 0, 1) := by decide +kernel
theorem dX12_back_154 : decode cX12_back 154 = .ok (.getfield 130, 3) := by decide +kernel
theorem dX12_back_157 : decode cX12_back 157 = .ok (.iload_n 1, 1) := by decide +kernel
theorem dX12_back_158 : decode cX12_back 158 = .ok (.aload_n 0, 1) := by decide +kernel
theorem dX12_back_159 : decode cX12_back 159 = .ok (.getfield 145, 3) := by decide +kernel
theorem dX12_back_162 : decode cX12_back 162 = .ok (.iload_n 1, 1) := by decide +kernel
theorem dX12_back_163 : decode cX12_back 163 = .ok (.iaload, 1) := by decide +kernel
theorem dX12_back_164 : decode cX12_back 164 = .ok (.iastore, 1) := by decide +kernel
theorem dX12_back_165 : decode cX12_back 165 = .ok (.iinc 1 1, 3) := by decide +kernel
theorem dX12_back_168 : decode cX12_back 168 = .ok (.goto (-22), 3) := by decide +kernel
theorem dX12_back_171 : decode cX12_back 171 = .ok (.aload_n 0, 1) := by decide +kernel
theorem dX12_back_172 : decode cX12_back 172 = .ok (.aload_n 0, 1) := by decide +kernel
theorem dX12_back_173 : decode cX12_back 173 = .ok (.getfield 506, 3) := by decide +kernel
theorem dX12_back_176 : decode cX12_back 176 = .ok (.putfield 315, 3) := by decide +kernel
theorem dX12_back_179 : decode cX12_back 179 = .ok (.aload_n 0, 1) := by decide +kernel
theorem dX12_back_180 : decode cX12_back 180 = .ok (.aload_n 0, 1) := by decide +kernel
theorem dX12_back_181 : decode cX12_back 181 = .ok (.getfield 509, 3) := by decide +kernel
theorem dX12_back_184 : decode cX12_back 184 = .ok (.putfield 319, 3) := by decide +kernel
theorem dX12_back_187 : decode cX12_back 187 = .ok (.aload_n 0, 1) := by decide +kernel
theorem dX12_back_188 : decode cX12_back 188 = .ok (.aload_n 0, 1) := by decide +kernel
theorem dX12_back_189 : decode cX12_back 189 = .ok (.getfield 512, 3) := by decide +kernel
theorem dX12_back_192 : decode cX12_back 192 = .ok (.putfield 331, 3) := by decide +kernel
theorem dX12_back_195 : decode cX12_back 195 = .ok (.aload_n 0, 1) := by decide +kernel
theorem dX12_back_196 : decode cX12_back 196 = .ok (.aload_n 0, 1) := by decide +kernel
theorem dX12_back_197 : decode cX12_back 197 = .ok (.getfield 515, 3) := by decide +kernel
theorem dX12_back_200 : decode cX12_back 200 = .ok (.putfield 312, 3) := by decide +kernel
theorem dX12_back_203 : decode cX12_back 203 = .ok (.aload_n 0, 1) := by decide +kernel
theorem dX12_back_204 : decode cX12_back 204 = .ok (.aload_n 0, 1) := by decide +kernel
theorem dX12_back_205 : decode cX12_back 205 = .ok (.getfield 518, 3) := by decide +kernel
theorem dX12_back_208 : decode cX12_back 208 = .ok (.putfield 495, 3) := by decide +kernel
theorem dX12_back_211 : decode cX12_back 211 = .ok (.aload_n 0, 1) := by decide +kernel
theorem dX12_back_212 : decode cX12_back 212 = .ok (.getfield 331, 3) := by decide +kernel
theorem dX12_back_215 : decode cX12_back 215 = .ok (.ireturn, 1) := by decide +kernel
theorem dX12_caughtInAll_0 : decode cX12_caughtInAll 0 = .ok (.iconst 0, 1) := by decide +kernel
theorem dX12_caughtInAll_1 : decode cX12_caughtInAll 1 = .ok (.istore_n 1, 1) := by decide +kernel
theorem dX12_caughtInAll_2 : decode cX12_caughtInAll 2 = .ok (.iconst 0, 1) := by decide +kernel
theorem dX12_caughtInAll_3 : decode cX12_caughtInAll 3 = .ok (.istore_n 2, 1) := by decide +kernel
theorem dX12_caughtInAll_4 : decode cX12_caughtInAll 4 = .ok (.iload_n 2, 1) := by decide +kernel
theorem dX12_caughtInAll_5 : decode cX12_caughtInAll 5 = .ok (.aload_n 0, 1) := by decide +kernel
theorem dX12_caughtInAll_6 : decode cX12_caughtInAll 6 = .ok (.getfield 331, 3) := by decide +kernel
theorem dX12_caughtInAll_9 : decode cX12_caughtInAll 9 = .ok (.if_icmp .ge 18, 3) := by decide +kernel
theorem dX12_caughtInAll_12 : decode cX12_caughtInAll 12 = .ok (.iload_n 1, 1) := by decide +kernel
theorem dX12_caughtInAll_13 : decode cX12_caughtInAll 13 = .ok (.aload_n 0, 1) := by decide +kernel
theorem dX12_caughtInAll_14 : decode cX12_caughtInAll 14 = .ok (.getfield 124, 3) := by decide +kernel
theorem dX12_caughtInAll_17 : decode cX12_caughtInAll 17 = .ok (.iload_n 2, 1) := by decide +kernel
theorem dX12_caughtInAll_18 : decode cX12_caughtInAll 18 = .ok (.iaload, 1) := by decide +kernel
theorem dX12_caughtInAll_19 : decode cX12_caughtInAll 19 = .ok (.iadd, 1) := by decide +kernel
theorem dX12_caughtInAll_20 : decode cX12_caughtInAll 20 = .ok (.istore_n 1, 1) := by decide +kernel
theorem dX12_caughtInAll_21 : decode cX12_caughtInAll 21 = .ok (.iinc 2 1, 3) := by decide +kernel
theorem dX12_caughtInAll_24 : decode cX12_caughtInAll 24 = .ok (.goto (-20), 3) := by decide +kernel
theorem dX12_caughtInAll_27 : decode cX12_caughtInAll 27 = .ok (.iload_n 1, 1) := by decide +kernel
theorem dX12_caughtInAll_28 : decode cX12_caughtInAll 28 = .ok (.ireturn, 1) := by decide +kernel
theorem dX12_count_0 : decode cX12_count 0 = .ok (.iload_n 1, 1) := by decide +kernel
theorem dX12_count_1 : decode cX12_count 1 = .ok (.tableswitch 176 0 13 #[71, 76, 81, 86, 91, 96, 104, 117, 130, 143, 148, 153, 158, 163], 71) := by decide +kernel
theorem dX12_count_72 : decode cX12_count 72 = .ok (.aload_n 0, 1) := by decide +kernel
theorem dX12_count_73 : decode cX12_count 73 = .ok (.getfield 306, 3) := by decide +kernel
theorem dX12_count_76 : decode cX12_count 76 = .ok (.ireturn, 1) := by decide +kernel
theorem dX12_count_77 : decode cX12_count 77 = .ok (.aload_n 0, 1) := by decide +kernel
theorem dX12_count_78 : decode cX12_count 78 = .ok (.getfield 309, 3) := by decide +kernel
theorem dX12_count_81 : decode cX12_count 81 = .ok (.ireturn, 1) := by decide +kernel
theorem dX12_count_82 : decode cX12_count 82 = .ok (.aload_n 0, 1) := by decide +kernel
theorem dX12_count_83 : decode cX12_count 83 = .ok (.getfield 312, 3) := by decide +kernel
theorem dX12_count_86 : decode cX12_count 86 = .ok (.ireturn, 1) := by decide +kernel
theorem dX12_count_87 : decode cX12_count 87 = .ok (.aload_n 0, 1) := by decide +kernel
theorem dX12_count_88 : decode cX12_count 88 = .ok (.getfield 340, 3) := by decide +kernel
theorem dX12_count_91 : decode cX12_count 91 = .ok (.ireturn, 1) := by decide +kernel
theorem dX12_count_92 : decode cX12_count 92 = .ok (.aload_n 0, 1) := by decide +kernel
theorem dX12_count_93 : decode cX12_count 93 = .ok (.getfield 161, 3) := by decide +kernel
theorem dX12_count_96 : decode cX12_count 96 = .ok (.ireturn, 1) := by decide +kernel
theorem dX12_count_97 : decode cX12_count 97 = .ok (.aload_n 0, 1) := by decide +kernel
theorem dX12_count_98 : decode cX12_count 98 = .ok (.getfield 49, 3) := by decide +kernel
theorem dX12_count_101 : decode cX12_count 101 = .ok (.invokestatic 402, 3) := by decide +kernel
theorem dX12_count_104 : decode cX12_count 104 = .ok (.ireturn, 1) := by decide +kernel
theorem dX12_count_105 : decode cX12_count 105 = .ok (.aload_n 0, 1) := by decide +kernel
theorem dX12_count_106 : decode cX12_count 106 = .ok (.getfield 315, 3) := by decide +kernel
theorem dX12_count_109 : decode cX12_count 109 = .ok (.ifCond .eq 7, 3) := by decide +kernel
theorem dX12_count_112 : decode cX12_count 112 = .ok (.iconst 1, 1) := by decide +kernel
theorem dX12_count_113 : decode cX12_count 113 = .ok (.goto 4, 3) := by decide +kernel
theorem dX12_count_116 : decode cX12_count 116 = .ok (.iconst 0, 1) := by decide +kernel
theorem dX12_count_117 : decode cX12_count 117 = .ok (.ireturn, 1) := by decide +kernel
theorem dX12_count_118 : decode cX12_count 118 = .ok (.aload_n 0, 1) := by decide +kernel
theorem dX12_count_119 : decode cX12_count 119 = .ok (.getfield 319, 3) := by decide +kernel
theorem dX12_count_122 : decode cX12_count 122 = .ok (.ifCond .eq 7, 3) := by decide +kernel
theorem dX12_count_125 : decode cX12_count 125 = .ok (.iconst 1, 1) := by decide +kernel
theorem dX12_count_126 : decode cX12_count 126 = .ok (.goto 4, 3) := by decide +kernel
theorem dX12_count_129 : decode cX12_count 129 = .ok (.iconst 0, 1) := by decide +kernel
theorem dX12_count_130 : decode cX12_count 130 = .ok (.ireturn, 1) := by decide +kernel
theorem dX12_count_131 : decode cX12_count 131 = .ok (.aload_n 0, 1) := by decide +kernel
theorem dX12_count_132 : decode cX12_count 132 = .ok (.getfield 322, 3) := by decide +kernel
theorem dX12_count_135 : decode cX12_count 135 = .ok (.ifCond .eq 7, 3) := by decide +kernel
theorem dX12_count_138 : decode cX12_count 138 = .ok (.iconst 1, 1) := by decide +kernel
theorem dX12_count_139 : decode cX12_count 139 = .ok (.goto 4, 3) := by decide +kernel
theorem dX12_count_142 : decode cX12_count 142 = .ok (.iconst 0, 1) := by decide +kernel
theorem dX12_count_143 : decode cX12_count 143 = .ok (.ireturn, 1) := by decide +kernel
theorem dX12_count_144 : decode cX12_count 144 = .ok (.aload_n 0, 1) := by decide +kernel
theorem dX12_count_145 : decode cX12_count 145 = .ok (.getfield 328, 3) := by decide +kernel
theorem dX12_count_148 : decode cX12_count 148 = .ok (.ireturn, 1) := by decide +kernel
theorem dX12_count_149 : decode cX12_count 149 = .ok (.aload_n 0, 1) := by decide +kernel
theorem dX12_count_150 : decode cX12_count 150 = .ok (.getfield 331, 3) := by decide +kernel
theorem dX12_count_153 : decode cX12_count 153 = .ok (.ireturn, 1) := by decide +kernel
theorem dX12_count_154 : decode cX12_count 154 = .ok (.aload_n 0, 1) := by decide +kernel
theorem dX12_count_155 : decode cX12_count 155 = .ok (.invokevirtual 521, 3) := by decide +kernel
theorem dX12_count_158 : decode cX12_count 158 = .ok (.ireturn, 1) := by decide +kernel
theorem dX12_count_159 : decode cX12_count 159 = .ok (.aload_n 0, 1) := by decide +kernel
theorem dX12_count_160 : decode cX12_count 160 = .ok (.getfield 55, 3) := by decide +kernel
theorem dX12_count_163 : decode cX12_count 163 = .ok (.ireturn, 1) := by decide +kernel
theorem dX12_count_164 : decode cX12_count 164 = .ok (.aload_n 0, 1) := by decide +kernel
theorem dX12_count_165 : decode cX12_count 165 = .ok (.getfield 325, 3) := by decide +kernel
theorem dX12_count_168 : decode cX12_count 168 = .ok (.ifCond .eq 7, 3) := by decide +kernel
theorem dX12_count_171 : decode cX12_count 171 = .ok (.iconst 1, 1) := by decide +kernel
theorem dX12_count_172 : decode cX12_count 172 = .ok (.goto 4, 3) := by decide +kernel
theorem dX12_count_175 : decode cX12_count 175 = .ok (.iconst 0, 1) := by decide +kernel
theorem dX12_count_176 : decode cX12_count 176 = .ok (.ireturn, 1) := by decide +kernel
theorem dX12_count_177 : decode cX12_count 177 = .ok (.ldc_w 463, 3) := by decide +kernel
theorem dX12_count_180 : decode cX12_count 180 = .ok (.ireturn, 1) := by decide +kernel
