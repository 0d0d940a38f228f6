theorem dX10_init_0 : decode cX10_init 0 = .ok (.aload_n 0, 1) := by decide +kernel
theorem dX10_init_1 : decode cX10_init 1 = .ok (.invokespecial 1, 3) := by decide +kernel
theorem dX10_init_4 : decode cX10_init 4 = .ok (.aload_n 0, 1) := by decide +kernel
theorem dX10_init_5 : decode cX10_init 5 = .ok (.bipush 100, 2) := by decide +kernel
theorem dX10_init_7 : decode cX10_init 7 = .ok (.newarray .int, 2) := by decide +kernel
theorem dX10_init_9 : decode cX10_init 9 = .ok (.putfield 7, 3) := by decide +kernel
theorem dX10_init_12 : decode cX10_init 12 = .ok (.aload_n 0, 1) := by decide +kernel
theorem dX10_init_13 : decode cX10_init 13 = .ok (.bipush 100, 2) := by decide +kernel
theorem dX10_init_15 : decode cX10_init 15 = .ok (.newarray .int, 2) := by decide +kernel
theorem dX10_init_17 : decode cX10_init 17 = .ok (.putfield 13, 3) := by decide +kernel
theorem dX10_init_20 : decode cX10_init 20 = .ok (.aload_n 0, 1) := by decide +kernel
theorem dX10_init_21 : decode cX10_init 21 = .ok (.bipush 12, 2) := by decide +kernel
theorem dX10_init_23 : decode cX10_init 23 = .ok (.newarray .int, 2) := by decide +kernel
theorem dX10_init_25 : decode cX10_init 25 = .ok (.putfield 16, 3) := by decide +kernel
theorem dX10_init_28 : decode cX10_init 28 = .ok (.aload_n 0, 1) := by decide +kernel
theorem dX10_init_29 : decode cX10_init 29 = .ok (.bipush 12, 2) := by decide +kernel
theorem dX10_init_31 : decode cX10_init 31 = .ok (.newarray .int, 2) := by decide +kernel
theorem dX10_init_33 : decode cX10_init 33 = .ok (.putfield 19, 3) := by decide +kernel
theorem dX10_init_36 : decode cX10_init 36 = .ok (.aload_n 0, 1) := by decide +kernel
theorem dX10_init_37 : decode cX10_init 37 = .ok (.bipush 12, 2) := by decide +kernel
theorem dX10_init_39 : decode cX10_init 39 = .ok (.newarray .int, 2) := by decide +kernel
theorem dX10_init_41 : decode cX10_init 41 = .ok (.putfield 22, 3) := by decide +kernel
theorem dX10_init_44 : decode cX10_init 44 = .ok (.aload_n 0, 1) := by decide +kernel
theorem dX10_init_45 : decode cX10_init 45 = .ok (.bipush 8, 2) := by decide +kernel
theorem dX10_init_47 : decode cX10_init 47 = .ok (.newarray .int, 2) := by decide +kernel
theorem dX10_init_49 : decode cX10_init 49 = .ok (.dup, 1) := by decide +kernel
theorem dX10_init_50 : decode cX10_init 50 = .ok (.iconst 0, 1) := by decide +kernel
theorem dX10_init_51 : decode cX10_init 51 = .ok (.iconst 0, 1) := by decide +kernel
theorem dX10_init_52 : decode cX10_init 52 = .ok (.iastore, 1) := by decide +kernel
theorem dX10_init_53 : decode cX10_init 53 = .ok (.dup, 1) := by decide +kernel
theorem dX10_init_54 : decode cX10_init 54 = .ok (.iconst 1, 1) := by decide +kernel
theorem dX10_init_55 : decode cX10_init 55 = .ok (.iconst 1, 1) := by decide +kernel
theorem dX10_init_56 : decode cX10_init 56 = .ok (.iastore, 1) := by decide +kernel
theorem dX10_init_57 : decode cX10_init 57 = .ok (.dup, 1) := by decide +kernel
theorem dX10_init_58 : decode cX10_init 58 = .ok (.iconst 2, 1) := by decide +kernel
theorem dX10_init_59 : decode cX10_init 59 = .ok (.iconst 1, 1) := by decide +kernel
theorem dX10_init_60 : decode cX10_init 60 = .ok (.iastore, 1) := by decide +kernel
theorem dX10_init_61 : decode cX10_init 61 = .ok (.dup, 1) := by decide +kernel
theorem dX10_init_62 : decode cX10_init 62 = .ok (.iconst 3, 1) := by decide +kernel
theorem dX10_init_63 : decode cX10_init 63 = .ok (.iconst 1, 1) := by decide +kernel
theorem dX10_init_64 : decode cX10_init 64 = .ok (.iastore, 1) := by decide +kernel
theorem dX10_init_65 : decode cX10_init 65 = .ok (.dup, 1) := by decide +kernel
theorem dX10_init_66 : decode cX10_init 66 = .ok (.iconst 4, 1) := by decide +kernel
theorem dX10_init_67 : decode cX10_init 67 = .ok (.iconst 0, 1) := by decide +kernel
theorem dX10_init_68 : decode cX10_init 68 = .ok (.iastore, 1) := by decide +kernel
theorem dX10_init_69 : decode cX10_init 69 = .ok (.dup, 1) := by decide +kernel
theorem dX10_init_70 : decode cX10_init 70 = .ok (.iconst 5, 1) := by decide +kernel
theorem dX10_init_71 : decode cX10_init 71 = .ok (.iconst (-1), 1) := by decide +kernel
theorem dX10_init_72 : decode cX10_init 72 = .ok (.iastore, 1) := by decide +kernel
theorem dX10_init_73 : decode cX10_init 73 = .ok (.dup, 1) := by decide +kernel
theorem dX10_init_74 : decode cX10_init 74 = .ok (.bipush 6, 2) := by decide +kernel
theorem dX10_init_76 : decode cX10_init 76 = .ok (.iconst (-1), 1) := by decide +kernel
theorem dX10_init_77 : decode cX10_init 77 = .ok (.iastore, 1) := by decide +kernel
theorem dX10_init_78 : decode cX10_init 78 = .ok (.dup, 1) := by decide +kernel
theorem dX10_init_79 : decode cX10_init 79 = .ok (.bipush 7, 2) := by decide +kernel
theorem dX10_init_81 : decode cX10_init 81 = .ok (.iconst (-1), 1) := by decide +kernel
theorem dX10_init_82 : decode cX10_init 82 = .ok (.iastore, 1) := by decide +kernel
theorem dX10_init_83 : decode cX10_init 83 = .ok (.putfield 25, 3) := by decide +kernel
theorem dX10_init_86 : decode cX10_init 86 = .ok (.aload_n 0, 1) := by decide +kernel
theorem dX10_init_87 : decode cX10_init 87 = .ok (.bipush 8, 2) := by decide +kernel
theorem dX10_init_89 : decode cX10_init 89 = .ok (.newarray .int, 2) := by decide +kernel
theorem dX10_init_91 : decode cX10_init 91 = .ok (.dup, 1) := by decide +kernel
theorem dX10_init_92 : decode cX10_init 92 = .ok (.iconst 0, 1) := by decide +kernel
theorem dX10_init_93 : decode cX10_init 93 = .ok (.iconst 1, 1) := by decide +kernel
theorem dX10_init_94 : decode cX10_init 94 = .ok (.iastore, 1) := by decide +kernel
theorem dX10_init_95 : decode cX10_init 95 = .ok (.dup, 1) := by decide +kernel
theorem dX10_init_96 : decode cX10_init 96 = .ok (.iconst 1, 1) := by decide +kernel
theorem dX10_init_97 : decode cX10_init 97 = .ok (.iconst 1, 1) := by decide +kernel
theorem dX10_init_98 : decode cX10_init 98 = .ok (.iastore, 1) := by decide +kernel
theorem dX10_init_99 : decode cX10_init 99 = .ok (.dup, 1) := by decide +kernel
theorem dX10_init_100 : decode cX10_init 100 = .ok (.iconst 2, 1) := by decide +kernel
theorem dX10_init_101 : decode cX10_init 101 = .ok (.iconst 0, 1) := by decide +kernel
theorem dX10_init_102 : decode cX10_init 102 = .ok (.iastore, 1) := by decide +kernel
theorem dX10_init_103 : decode cX10_init 103 = .ok (.dup, 1) := by decide +kernel
theorem dX10_init_104 : decode cX10_init 104 = .ok (.iconst 3, 1) := by decide +kernel
theorem dX10_init_105 : decode cX10_init 105 = .ok (.iconst (-1), 1) := by decide +kernel
theorem dX10_init_106 : decode cX10_init 106 = .ok (.iastore, 1) := by decide +kernel
theorem dX10_init_107 : decode cX10_init 107 = .ok (.dup, 1) := by decide +kernel
theorem dX10_init_108 : decode cX10_init 108 = .ok (.iconst 4, 1) := by decide +kernel
theorem dX10_init_109 : decode cX10_init 109 = .ok (.iconst (-1), 1) := by decide +kernel
theorem dX10_init_110 : decode cX10_init 110 = .ok (.iastore, 1) := by decide +kernel
theorem dX10_init_111 : decode cX10_init 111 = .ok (.dup, 1) := by decide +kernel
theorem dX10_init_112 : decode cX10_init 112 = .ok (.iconst 5, 1) := by decide +kernel
theorem dX10_init_113 : decode cX10_init 113 = .ok (.iconst (-1), 1) := by decide +kernel
theorem dX10_init_114 : decode cX10_init 114 = .ok (.iastore, 1) := by decide +kernel
theorem dX10_init_115 : decode cX10_init 115 = .ok (.dup, 1) := by decide +kernel
theorem dX10_init_116 : decode cX10_init 116 = .ok (.bipush 6, 2) := by decide +kernel
theorem dX10_init_118 : decode cX10_init 118 = .ok (.iconst 0, 1) := by decide +kernel
theorem dX10_init_119 : decode cX10_init 119 = .ok (.iastore, 1) := by decide +kernel
theorem dX10_init_120 : decode cX10_init 120 = .ok (.dup, 1) := by decide +kernel
theorem dX10_init_121 : decode cX10_init 121 = .ok (.bipush 7, 2) := by decide +kernel
theorem dX10_init_123 : decode cX10_init 123 = .ok (.iconst 1, 1) := by decide +kernel
theorem dX10_init_124 : decode cX10_init 124 = .ok (.iastore, 1) := by decide +kernel
theorem dX10_init_125 : decode cX10_init 125 = .ok (.putfield 28, 3) := by decide +kernel
theorem dX10_init_128 : decode cX10_init 128 = .ok (.aload_n 0, 1) := by decide +kernel
theorem dX10_init_129 : decode cX10_init 129 = .ok (.bipush 6, 2) := by decide +kernel
theorem dX10_init_131 : decode cX10_init 131 = .ok (.newarray .int, 2) := by decide +kernel
theorem dX10_init_133 : decode cX10_init 133 = .ok (.putfield 31, 3) := by decide +kernel
theorem dX10_init_136 : decode cX10_init 136 = .ok (.aload_n 0, 1) := by decide +kernel
theorem dX10_init_137 : decode cX10_init 137 = .ok (.bipush 6, 2) := by decide +kernel
theorem dX10_init_139 : decode cX10_init 139 = .ok (.newarray .int, 2) := by decide +kernel
theorem dX10_init_141 : decode cX10_init 141 = .ok (.putfield 34, 3) := by decide +kernel
theorem dX10_init_144 : decode cX10_init 144 = .ok (.aload_n 0, 1) := by decide +kernel
theorem dX10_init_145 : decode cX10_init 145 = .ok (.bipush 6, 2) := by decide +kernel
theorem dX10_init_147 : decode cX10_init 147 = .ok (.newarray .int, 2) := by decide +kernel
theorem dX10_init_149 : decode cX10_init 149 = .ok (.putfield 37, 3) := by decide +kernel
theorem dX10_init_152 : decode cX10_init 152 = .ok (.aload_n 0, 1) := by decide +kernel
theorem dX10_init_153 : decode cX10_init 153 = .ok (.bipush 6, 2) := by decide +kernel
theorem dX10_init_155 : decode cX10_init 155 = .ok (.newarray .int, 2) := by decide +kernel
theorem dX10_init_157 : decode cX10_init 157 = .ok (.putfield 40, 3) := by decide +kernel
theorem dX10_init_160 : decode cX10_init 160 = .ok (.aload_n 0, 1) := by decide +kernel
theorem dX10_init_161 : decode cX10_init 161 = .ok (.bipush 6, 2) := by decide +kernel
theorem dX10_init_163 : decode cX10_init 163 = .ok (.newarray .int, 2) := by decide +kernel
theorem dX10_init_165 : decode cX10_init 165 = .ok (.putfield 43, 3) := by decide +kernel
theorem dX10_init_168 : decode cX10_init 168 = .ok (.aload_n 0, 1) := by decide +kernel
theorem dX10_init_169 : decode cX10_init 169 = .ok (.bipush 6, 2) := by decide +kernel
theorem dX10_init_171 : decode cX10_init 171 = .ok (.newarray .int, 2) := by decide +kernel
theorem dX10_init_173 : decode cX10_init 173 = .ok (.putfield 46, 3) := by decide +kernel
theorem dX10_init_176 : decode cX10_init 176 = .ok (.aload_n 0, 1) := by decide +kernel
theorem dX10_init_177 : decode cX10_init 177 = .ok (.bipush 20, 2) := by decide +kernel
theorem dX10_init_179 : decode cX10_init 179 = .ok (.newarray .int, 2) := by decide +kernel
theorem dX10_init_181 : decode cX10_init 181 = .ok (.putfield 49, 3) := by decide +kernel
theorem dX10_init_184 : decode cX10_init 184 = .ok (.aload_n 0, 1) := by decide +kernel
theorem dX10_init_185 : decode cX10_init 185 = .ok (.bipush 20, 2) := by decide +kernel
theorem dX10_init_187 : decode cX10_init 187 = .ok (.newarray .int, 2) := by decide +kernel
theorem dX10_init_189 : decode cX10_init 189 = .ok (.putfield 52, 3) := by decide +kernel
theorem dX10_init_192 : decode cX10_init 192 = .ok (.aload_n 0, 1) := by decide +kernel
theorem dX10_init_193 : decode cX10_init 193 = .ok (.sipush 160, 3) := by decide +kernel
theorem dX10_init_196 : decode cX10_init 196 = .ok (.newarray .int, 2) := by decide +kernel
theorem dX10_init_198 : decode cX10_init 198 = .ok (.putfield 55, 3) := by decide +kernel
theorem dX10_init_201 : decode cX10_init 201 = .ok (.aload_n 0, 1) := by decide +kernel
theorem dX10_init_202 : decode cX10_init 202 = .ok (.sipush 1200, 3) := by decide +kernel
theorem dX10_init_205 : decode cX10_init 205 = .ok (.newarray .int, 2) := by decide +kernel
theorem dX10_init_207 : decode cX10_init 207 = .ok (.putfield 58, 3) := by decide +kernel
theorem dX10_init_210 : decode cX10_init 210 = .ok (.aload_n 0, 1) := by decide +kernel
theorem dX10_init_211 : decode cX10_init 211 = .ok (.bipush 24, 2) := by decide +kernel
theorem dX10_init_213 : decode cX10_init 213 = .ok (.newarray .int, 2) := by decide +kernel
theorem dX10_init_215 : decode cX10_init 215 = .ok (.putfield 61, 3) := by decide +kernel
theorem dX10_init_218 : decode cX10_init 218 = .ok (.aload_n 0, 1) := by decide +kernel
theorem dX10_init_219 : decode cX10_init 219 = .ok (.bipush 6, 2) := by decide +kernel
theorem dX10_init_221 : decode cX10_init 221 = .ok (.newarray .int, 2) := by decide +kernel
theorem dX10_init_223 : decode cX10_init 223 = .ok (.putfield 64, 3) := by decide +kernel
theorem dX10_init_226 : decode cX10_init 226 = .ok (.aload_n 0, 1) := by decide +kernel
theorem dX10_init_227 : decode cX10_init 227 = .ok (.bipush 6, 2) := by decide +kernel
theorem dX10_init_229 : decode cX10_init 229 = .ok (.newarray .int, 2) := by decide +kernel
theorem dX10_init_231 : decode cX10_init 231 = .ok (.putfield 67, 3) := by decide +kernel
theorem dX10_init_234 : decode cX10_init 234 = .ok (.aload_n 0, 1) := by decide +kernel
theorem dX10_init_235 : decode cX10_init 235 = .ok (.bipush 20, 2) := by decide +kernel
theorem dX10_init_237 : decode cX10_init 237 = .ok (.newarray .int, 2) := by decide +kernel
theorem dX10_init_239 : decode cX10_init 239 = .ok (.putfield 70, 3) := by decide +kernel
theorem dX10_init_242 : decode cX10_init 242 = .ok (.aload_n 0, 1) := by decide +kernel
theorem dX10_init_243 : decode cX10_init 243 = .ok (.bipush 20, 2) := by decide +kernel
theorem dX10_init_245 : decode cX10_init 245 = .ok (.newarray .int, 2) := by decide +kernel
theorem dX10_init_247 : decode cX10_init 247 = .ok (.putfield 73, 3) := by decide +kernel
theorem dX10_init_250 : decode cX10_init 250 = .ok (.aload_n 0, 1) := by decide +kernel
theorem dX10_init_251 : decode cX10_init 251 = .ok (.iconst 4, 1) := by decide +kernel
theorem dX10_init_252 : decode cX10_init 252 = .ok (.newarray .int, 2) := by decide +kernel
theorem dX10_init_254 : decode cX10_init 254 = .ok (.dup, 1) := by decide +kernel
theorem dX10_init_255 : decode cX10_init 255 = .ok (.iconst 0, 1) := by decide +kernel
theorem dX10_init_256 : decode cX10_init 256 = .ok (.iconst (-1), 1) := by decide +kernel
theorem dX10_init_257 : decode cX10_init 257 = .ok (.iastore, 1) := by decide +kernel
theorem dX10_init_258 : decode cX10_init 258 = .ok (.dup, 1) := by decide +kernel
theorem dX10_init_259 : decode cX10_init 259 = .ok (.iconst 1, 1) := by decide +kernel
theorem dX10_init_260 : decode cX10_init 260 = .ok (.iconst (-1), 1) := by decide +kernel
theorem dX10_init_261 : decode cX10_init 261 = .ok (.iastore, 1) := by decide +kernel
theorem dX10_init_262 : decode cX10_init 262 = .ok (.dup, 1) := by decide +kernel
theorem dX10_init_263 : decode cX10_init 263 = .ok (.iconst 2, 1) := by decide +kernel
theorem dX10_init_264 : decode cX10_init 264 = .ok (.iconst (-1), 1) := by decide +kernel
theorem dX10_init_265 : decode cX10_init 265 = .ok (.iastore, 1) := by decide +kernel
theorem dX10_init_266 : decode cX10_init 266 = .ok (.dup, 1) := by decide +kernel
theorem dX10_init_267 : decode cX10_init 267 = .ok (.iconst 3, 1) := by decide +kernel
theorem dX10_init_268 : decode cX10_init 268 = .ok (.iconst (-1), 1) := by decide +kernel
theorem dX10_init_269 : decode cX10_init 269 = .ok (.iastore, 1) := by decide +kernel
theorem dX10_init_270 : decode cX10_init 270 = .ok (.putfield 76, 3) := by decide +kernel
theorem dX10_init_273 : decode cX10_init 273 = .ok (.aload_n 0, 1) := by decide +kernel
theorem dX10_init_274 : decode cX10_init 274 = .ok (.iconst 4, 1) := by decide +kernel
theorem dX10_init_275 : decode cX10_init 275 = .ok (.newarray .int, 2) := by decide +kernel
theorem dX10_init_277 : decode cX10_init 277 = .ok (.putfield 79, 3) := by decide +kernel
theorem dX10_init_280 : decode cX10_init 280 = .ok (.aload_n 0, 1) := by decide +kernel
theorem dX10_init_281 : decode cX10_init 281 = .ok (.sipush 160, 3) := by decide +kernel
theorem dX10_init_284 : decode cX10_init 284 = .ok (.newarray .int, 2) := by decide +kernel
theorem dX10_init_286 : decode cX10_init 286 = .ok (.putfield 82, 3) := by decide +kernel
theorem dX10_init_289 : decode cX10_init 289 = .ok (.aload_n 0, 1) := by decide +kernel
theorem dX10_init_290 : decode cX10_init 290 = .ok (.bipush 70, 2) := by decide +kernel
theorem dX10_init_292 : decode cX10_init 292 = .ok (.newarray .int, 2) := by decide +kernel
theorem dX10_init_294 : decode cX10_init 294 = .ok (.dup, 1) := by decide +kernel
theorem dX10_init_295 : decode cX10_init 295 = .ok (.iconst 0, 1) := by decide +kernel
theorem dX10_init_296 : decode cX10_init 296 = .ok (.bipush 112, 2) := by decide +kernel
theorem dX10_init_298 : decode cX10_init 298 = .ok (.iastore, 1) := by decide +kernel
theorem dX10_init_299 : decode cX10_init 299 = .ok (.dup, 1) := by decide +kernel
theorem dX10_init_300 : decode cX10_init 300 = .ok (.iconst 1, 1) := by decide +kernel
theorem dX10_init_301 : decode cX10_init 301 = .ok (.bipush 117, 2) := by decide +kernel
theorem dX10_init_303 : decode cX10_init 303 = .ok (.iastore, 1) := by decide +kernel
theorem dX10_init_304 : decode cX10_init 304 = .ok (.dup, 1) := by decide +kernel
theorem dX10_init_305 : decode cX10_init 305 = .ok (.iconst 2, 1) := by decide +kernel
theorem dX10_init_306 : decode cX10_init 306 = .ok (.bipush 108, 2) := by decide +kernel
theorem dX10_init_308 : decode cX10_init 308 = .ok (.iastore, 1) := by decide +kernel
theorem dX10_init_309 : decode cX10_init 309 = .ok (.dup, 1) := by decide +kernel
theorem dX10_init_310 : decode cX10_init 310 = .ok (.iconst 3, 1) := by decide +kernel
theorem dX10_init_311 : decode cX10_init 311 = .ok (.bipush 108, 2) := by decide +kernel
theorem dX10_init_313 : decode cX10_init 313 = .ok (.iastore, 1) := by decide +kernel
theorem dX10_init_314 : decode cX10_init 314 = .ok (.dup, 1) := by decide +kernel
theorem dX10_init_315 : decode cX10_init 315 = .ok (.iconst 4, 1) := by decide +kernel
theorem dX10_init_316 : decode cX10_init 316 = .ok (.bipush 32, 2) := by decide +kernel
theorem dX10_init_318 : decode cX10_init 318 = .ok (.iastore, 1) := by decide +kernel
theorem dX10_init_319 : decode cX10_init 319 = .ok (.dup, 1) := by decide +kernel
theorem dX10_init_320 : decode cX10_init 320 = .ok (.iconst 5, 1) := by decide +kernel
theorem dX10_init_321 : decode cX10_init 321 = .ok (.bipush 119, 2) := by decide +kernel
theorem dX10_init_323 : decode cX10_init 323 = .ok (.iastore, 1) := by decide +kernel
theorem dX10_init_324 : decode cX10_init 324 = .ok (.dup, 1) := by decide +kernel
theorem dX10_init_325 : decode cX10_init 325 = .ok (.bipush 6, 2) := by decide +kernel
theorem dX10_init_327 : decode cX10_init 327 = .ok (.bipush 105, 2) := by decide +kernel
theorem dX10_init_329 : decode cX10_init 329 = .ok (.iastore, 1) := by decide +kernel
theorem dX10_init_330 : decode cX10_init 330 = .ok (.dup, 1) := by decide +kernel
theorem dX10_init_331 : decode cX10_init 331 = .ok (.bipush 7, 2) := by decide +kernel
theorem dX10_init_333 : decode cX10_init 333 = .ok (.bipush 110, 2) := by decide +kernel
theorem dX10_init_335 : decode cX10_init 335 = .ok (.iastore, 1) := by decide +kernel
theorem dX10_init_336 : decode cX10_init 336 = .ok (.dup, 1) := by decide +kernel
theorem dX10_init_337 : decode cX10_init 337 = .ok (.bipush 8, 2) := by decide +kernel
theorem dX10_init_339 : decode cX10_init 339 = .ok (.bipush 100, 2) := by decide +kernel
theorem dX10_init_341 : decode cX10_init 341 = .ok (.iastore, 1) := by decide +kernel
theorem dX10_init_342 : decode cX10_init 342 = .ok (.dup, 1) := by decide +kernel
theorem dX10_init_343 : decode cX10_init 343 = .ok (.bipush 9, 2) := by decide +kernel
theorem dX10_init_345 : decode cX10_init 345 = .ok (.bipush 32, 2) := by decide +kernel
theorem dX10_init_347 : decode cX10_init 347 = .ok (.iastore, 1) := by decide +kernel
theorem dX10_init_348 : decode cX10_init 348 = .ok (.dup, 1) := by decide +kernel
theorem dX10_init_349 : decode cX10_init 349 = .ok (.bipush 10, 2) := by decide +kernel
theorem dX10_init_351 : decode cX10_init 351 = .ok (.bipush 42, 2) := by decide +kernel
theorem dX10_init_353 : decode cX10_init 353 = .ok (.iastore, 1) := by decide +kernel
theorem dX10_init_354 : decode cX10_init 354 = .ok (.dup, 1) := by decide +kernel
theorem dX10_init_355 : decode cX10_init 355 = .ok (.bipush 11, 2) := by decide +kernel
theorem dX10_init_357 : decode cX10_init 357 = .ok (.bipush 32, 2) := by decide +kernel
theorem dX10_init_359 : decode cX10_init 359 = .ok (.iastore, 1) := by decide +kernel
theorem dX10_init_360 : decode cX10_init 360 = .ok (.dup, 1) := by decide +kernel
theorem dX10_init_361 : decode cX10_init 361 = .ok (.bipush 12, 2) := by decide +kernel
theorem dX10_init_363 : decode cX10_init 363 = .ok (.bipush 97, 2) := by decide +kernel
theorem dX10_init_365 : decode cX10_init 365 = .ok (.iastore, 1) := by decide +kernel
theorem dX10_init_366 : decode cX10_init 366 = .ok (.dup, 1) := by decide +kernel
theorem dX10_init_367 : decode cX10_init 367 = .ok (.bipush 13, 2) := by decide +kernel
theorem dX10_init_369 : decode cX10_init 369 = .ok (.bipush 114, 2) := by decide +kernel
theorem dX10_init_371 : decode cX10_init 371 = .ok (.iastore, 1) := by decide +kernel
theorem dX10_init_372 : decode cX10_init 372 = .ok (.dup, 1) := by decide +kernel
theorem dX10_init_373 : decode cX10_init 373 = .ok (.bipush 14, 2) := by decide +kernel
theorem dX10_init_375 : decode cX10_init 375 = .ok (.bipush 101, 2) := by decide +kernel
theorem dX10_init_377 : decode cX10_init 377 = .ok (.iastore, 1) := by decide +kernel
theorem dX10_init_378 : decode cX10_init 378 = .ok (.dup, 1) := by decide +kernel
theorem dX10_init_379 : decode cX10_init 379 = .ok (.bipush 15, 2) := by decide +kernel
theorem dX10_init_381 : decode cX10_init 381 = .ok (.bipush 97, 2) := by decide +kernel
theorem dX10_init_383 : decode cX10_init 383 = .ok (.iastore, 1) := by decide +kernel
theorem dX10_init_384 : decode cX10_init 384 = .ok (.dup, 1) := by decide +kernel
theorem dX10_init_385 : decode cX10_init 385 = .ok (.bipush 16, 2) := by decide +kernel
theorem dX10_init_387 : decode cX10_init 387 = .ok (.bipush 32, 2) := by decide +kernel
theorem dX10_init_389 : decode cX10_init 389 = .ok (.iastore, 1) := by decide +kernel
theorem dX10_init_390 : decode cX10_init 390 = .ok (.dup, 1) := by decide +kernel
theorem dX10_init_391 : decode cX10_init 391 = .ok (.bipush 17, 2) := by decide +kernel
theorem dX10_init_393 : decode cX10_init 393 = .ok (.bipush 59, 2) := by decide +kernel
theorem dX10_init_395 : decode cX10_init 395 = .ok (.iastore, 1) := by decide +kernel
theorem dX10_init_396 : decode cX10_init 396 = .ok (.dup, 1) := by decide +kernel
theorem dX10_init_397 : decode cX10_init 397 = .ok (.bipush 18, 2) := by decide +kernel
theorem dX10_init_399 : decode cX10_init 399 = .ok (.bipush 32, 2) := by decide +kernel
theorem dX10_init_401 : decode cX10_init 401 = .ok (.iastore, 1) := by decide +kernel
theorem dX10_init_402 : decode cX10_init 402 = .ok (.dup, 1) := by decide +kernel
theorem dX10_init_403 : decode cX10_init 403 = .ok (.bipush 19, 2) := by decide +kernel
theorem dX10_init_405 : decode cX10_init 405 = .ok (.bipush 104, 2) := by decide +kernel
theorem dX10_init_407 : decode cX10_init 407 = .ok (.iastore, 1) := by decide +kernel
theorem dX10_init_408 : decode cX10_init 408 = .ok (.dup, 1) := by decide +kernel
theorem dX10_init_409 : decode cX10_init 409 = .ok (.bipush 20, 2) := by decide +kernel
theorem dX10_init_411 : decode cX10_init 411 = .ok (.bipush 111, 2) := by decide +kernel
theorem dX10_init_413 : decode cX10_init 413 = .ok (.iastore, 1) := by decide +kernel
theorem dX10_init_414 : decode cX10_init 414 = .ok (.dup, 1) := by decide +kernel
theorem dX10_init_415 : decode cX10_init 415 = .ok (.bipush 21, 2) := by decide +kernel
theorem dX10_init_417 : decode cX10_init 417 = .ok (.bipush 108, 2) := by decide +kernel
theorem dX10_init_419 : decode cX10_init 419 = .ok (.iastore, 1) := by decide +kernel
theorem dX10_init_420 : decode cX10_init 420 = .ok (.dup, 1) := by decide +kernel
theorem dX10_init_421 : decode cX10_init 421 = .ok (.bipush 22, 2) := by decide +kernel
theorem dX10_init_423 : decode cX10_init 423 = .ok (.bipush 100, 2) := by decide +kernel
theorem dX10_init_425 : decode cX10_init 425 = .ok (.iastore, 1) := by decide +kernel
theorem dX10_init_426 : decode cX10_init 426 = .ok (.dup, 1) := by decide +kernel
theorem dX10_init_427 : decode cX10_init 427 = .ok (.bipush 23, 2) := by decide +kernel
theorem dX10_init_429 : decode cX10_init 429 = .ok (.bipush 32, 2) := by decide +kernel
theorem dX10_init_431 : decode cX10_init 431 = .ok (.iastore, 1) := by decide +kernel
theorem dX10_init_432 : decode cX10_init 432 = .ok (.dup, 1) := by decide +kernel
theorem dX10_init_433 : decode cX10_init 433 = .ok (.bipush 24, 2) := by decide +kernel
theorem dX10_init_435 : decode cX10_init 435 = .ok (.bipush 54, 2) := by decide +kernel
theorem dX10_init_437 : decode cX10_init 437 = .ok (.iastore, 1) := by decide +kernel
theorem dX10_init_438 : decode cX10_init 438 = .ok (.dup, 1) := by decide +kernel
theorem dX10_init_439 : decode cX10_init 439 = .ok (.bipush 25, 2) := by decide +kernel
theorem dX10_init_441 : decode cX10_init 441 = .ok (.bipush 48, 2) := by decide +kernel
theorem dX10_init_443 : decode cX10_init 443 = .ok (.iastore, 1) := by decide +kernel
theorem dX10_init_444 : decode cX10_init 444 = .ok (.dup, 1) := by decide +kernel
theorem dX10_init_445 : decode cX10_init 445 = .ok (.bipush 26, 2) := by decide +kernel
theorem dX10_init_447 : decode cX10_init 447 = .ok (.bipush 32, 2) := by decide +kernel
theorem dX10_init_449 : decode cX10_init 449 = .ok (.iastore, 1) := by decide +kernel
theorem dX10_init_450 : decode cX10_init 450 = .ok (.dup, 1) := by decide +kernel
theorem dX10_init_451 : decode cX10_init 451 = .ok (.bipush 27, 2) := by decide +kernel
theorem dX10_init_453 : decode cX10_init 453 = .ok (.bipush 43, 2) := by decide +kernel
theorem dX10_init_455 : decode cX10_init 455 = .ok (.iastore, 1) := by decide +kernel
theorem dX10_init_456 : decode cX10_init 456 = .ok (.dup, 1) := by decide +kernel
theorem dX10_init_457 : decode cX10_init 457 = .ok (.bipush 28, 2) := by decide +kernel
theorem dX10_init_459 : decode cX10_init 459 = .ok (.bipush 32, 2) := by decide +kernel
theorem dX10_init_461 : decode cX10_init 461 = .ok (.iastore, 1) := by decide +kernel
theorem dX10_init_462 : decode cX10_init 462 = .ok (.dup, 1) := by decide +kernel
theorem dX10_init_463 : decode cX10_init 463 = .ok (.bipush 29, 2) := by decide +kernel
theorem dX10_init_465 : decode cX10_init 465 = .ok (.bipush 104, 2) := by decide +kernel
theorem dX10_init_467 : decode cX10_init 467 = .ok (.iastore, 1) := by decide +kernel
theorem dX10_init_468 : decode cX10_init 468 = .ok (.dup, 1) := by decide +kernel
theorem dX10_init_469 : decode cX10_init 469 = .ok (.bipush 30, 2) := by decide +kernel
theorem dX10_init_471 : decode cX10_init 471 = .ok (.bipush 101, 2) := by decide +kernel
theorem dX10_init_473 : decode cX10_init 473 = .ok (.iastore, 1) := by decide +kernel
theorem dX10_init_474 : decode cX10_init 474 = .ok (.dup, 1) := by decide +kernel
theorem dX10_init_475 : decode cX10_init 475 = .ok (.bipush 31, 2) := by decide +kernel
theorem dX10_init_477 : decode cX10_init 477 = .ok (.bipush 97, 2) := by decide +kernel
theorem dX10_init_479 : decode cX10_init 479 = .ok (.iastore, 1) := by decide +kernel
theorem dX10_init_480 : decode cX10_init 480 = .ok (.dup, 1) := by decide +kernel
theorem dX10_init_481 : decode cX10_init 481 = .ok (.bipush 32, 2) := by decide +kernel
theorem dX10_init_483 : decode cX10_init 483 = .ok (.bipush 118, 2) := by decide +kernel
theorem dX10_init_485 : decode cX10_init 485 = .ok (.iastore, 1) := by decide +kernel
theorem dX10_init_486 : decode cX10_init 486 = .ok (.dup, 1) := by decide +kernel
theorem dX10_init_487 : decode cX10_init 487 = .ok (.bipush 33, 2) := by decide +kernel
theorem dX10_init_489 : decode cX10_init 489 = .ok (.bipush 121, 2) := by decide +kernel
theorem dX10_init_491 : decode cX10_init 491 = .ok (.iastore, 1) := by decide +kernel
theorem dX10_init_492 : decode cX10_init 492 = .ok (.dup, 1) := by decide +kernel
theorem dX10_init_493 : decode cX10_init 493 = .ok (.bipush 34, 2) := by decide +kernel
theorem dX10_init_495 : decode cX10_init 495 = .ok (.bipush 32, 2) := by decide +kernel
theorem dX10_init_497 : decode cX10_init 497 = .ok (.iastore, 1) := by decide +kernel
theorem dX10_init_498 : decode cX10_init 498 = .ok (.dup, 1) := by decide +kernel
theorem dX10_init_499 : decode cX10_init 499 = .ok (.bipush 35, 2) := by decide +kernel
theorem dX10_init_501 : decode cX10_init 501 = .ok (.bipush 42, 2) := by decide +kernel
theorem dX10_init_503 : decode cX10_init 503 = .ok (.iastore, 1) := by decide +kernel
theorem dX10_init_504 : decode cX10_init 504 = .ok (.dup, 1) := by decide +kernel
theorem dX10_init_505 : decode cX10_init 505 = .ok (.bipush 36, 2) := by decide +kernel
theorem dX10_init_507 : decode cX10_init 507 = .ok (.bipush 32, 2) := by decide +kernel
theorem dX10_init_509 : decode cX10_init 509 = .ok (.iastore, 1) := by decide +kernel
theorem dX10_init_510 : decode cX10_init 510 = .ok (.dup, 1) := by decide +kernel
theorem dX10_init_511 : decode cX10_init 511 = .ok (.bipush 37, 2) := by decide +kernel
theorem dX10_init_513 : decode cX10_init 513 = .ok (.bipush 49, 2) := by decide +kernel
theorem dX10_init_515 : decode cX10_init 515 = .ok (.iastore, 1) := by decide +kernel
theorem dX10_init_516 : decode cX10_init 516 = .ok (.dup, 1) := by decide +kernel
theorem dX10_init_517 : decode cX10_init 517 = .ok (.bipush 38, 2) := by decide +kernel
theorem dX10_init_519 : decode cX10_init 519 = .ok (.bipush 48, 2) := by decide +kernel
theorem dX10_init_521 : decode cX10_init 521 = .ok (.iastore, 1) := by decide +kernel
theorem dX10_init_522 : decode cX10_init 522 = .ok (.dup, 1) := by decide +kernel
theorem dX10_init_523 : decode cX10_init 523 = .ok (.bipush 39, 2) := by decide +kernel
theorem dX10_init_525 : decode cX10_init 525 = .ok (.bipush 32, 2) := by decide +kernel
theorem dX10_init_527 : decode cX10_init 527 = .ok (.iastore, 1) := by decide +kernel
theorem dX10_init_528 : decode cX10_init 528 = .ok (.dup, 1) := by decide +kernel
theorem dX10_init_529 : decode cX10_init 529 = .ok (.bipush 40, 2) := by decide +kernel
theorem dX10_init_531 : decode cX10_init 531 = .ok (.bipush 45, 2) := by decide +kernel
theorem dX10_init_533 : decode cX10_init 533 = .ok (.iastore, 1) := by decide +kernel
theorem dX10_init_534 : decode cX10_init 534 = .ok (.dup, 1) := by decide +kernel
theorem dX10_init_535 : decode cX10_init 535 = .ok (.bipush 41, 2) := by decide +kernel
theorem dX10_init_537 : decode cX10_init 537 = .ok (.bipush 32, 2) := by decide +kernel
theorem dX10_init_539 : decode cX10_init 539 = .ok (.iastore, 1) := by decide +kernel
theorem dX10_init_540 : decode cX10_init 540 = .ok (.dup, 1) := by decide +kernel
theorem dX10_init_541 : decode cX10_init 541 = .ok (.bipush 42, 2) := by decide +kernel
theorem dX10_init_543 : decode cX10_init 543 = .ok (.bipush 98, 2) := by decide +kernel
theorem dX10_init_545 : decode cX10_init 545 = .ok (.iastore, 1) := by decide +kernel
theorem dX10_init_546 : decode cX10_init 546 = .ok (.dup, 1) := by decide +kernel
theorem dX10_init_547 : decode cX10_init 547 = .ok (.bipush 43, 2) := by decide +kernel
theorem dX10_init_549 : decode cX10_init 549 = .ok (.bipush 101, 2) := by decide +kernel
theorem dX10_init_551 : decode cX10_init 551 = .ok (.iastore, 1) := by decide +kernel
theorem dX10_init_552 : decode cX10_init 552 = .ok (.dup, 1) := by decide +kernel
theorem dX10_init_553 : decode cX10_init 553 = .ok (.bipush 44, 2) := by decide +kernel
theorem dX10_init_555 : decode cX10_init 555 = .ok (.bipush 100, 2) := by decide +kernel
theorem dX10_init_557 : decode cX10_init 557 = .ok (.iastore, 1) := by decide +kernel
theorem dX10_init_558 : decode cX10_init 558 = .ok (.dup, 1) := by decide +kernel
theorem dX10_init_559 : decode cX10_init 559 = .ok (.bipush 45, 2) := by decide +kernel
theorem dX10_init_561 : decode cX10_init 561 = .ok (.bipush 32, 2) := by decide +kernel
theorem dX10_init_563 : decode cX10_init 563 = .ok (.iastore, 1) := by decide +kernel
theorem dX10_init_564 : decode cX10_init 564 = .ok (.dup, 1) := by decide +kernel
theorem dX10_init_565 : decode cX10_init 565 = .ok (.bipush 46, 2) := by decide +kernel
theorem dX10_init_567 : decode cX10_init 567 = .ok (.bipush 42, 2) := by decide +kernel
theorem dX10_init_569 : decode cX10_init 569 = .ok (.iastore, 1) := by decide +kernel
theorem dX10_init_570 : decode cX10_init 570 = .ok (.dup, 1) := by decide +kernel
theorem dX10_init_571 : decode cX10_init 571 = .ok (.bipush 47, 2) := by decide +kernel
theorem dX10_init_573 : decode cX10_init 573 = .ok (.bipush 32, 2) := by decide +kernel
theorem dX10_init_575 : decode cX10_init 575 = .ok (.iastore, 1) := by decide +kernel
theorem dX10_init_576 : decode cX10_init 576 = .ok (.dup, 1) := by decide +kernel
theorem dX10_init_577 : decode cX10_init 577 = .ok (.bipush 48, 2) := by decide +kernel
theorem dX10_init_579 : decode cX10_init 579 = .ok (.bipush 50, 2) := by decide +kernel
theorem dX10_init_581 : decode cX10_init 581 = .ok (.iastore, 1) := by decide +kernel
theorem dX10_init_582 : decode cX10_init 582 = .ok (.dup, 1) := by decide +kernel
theorem dX10_init_583 : decode cX10_init 583 = .ok (.bipush 49, 2) := by decide +kernel
theorem dX10_init_585 : decode cX10_init 585 = .ok (.bipush 48, 2) := by decide +kernel
theorem dX10_init_587 : decode cX10_init 587 = .ok (.iastore, 1) := by decide +kernel
theorem dX10_init_588 : decode cX10_init 588 = .ok (.dup, 1) := by decide +kernel
theorem dX10_init_589 : decode cX10_init 589 = .ok (.bipush 50, 2) := by decide +kernel
theorem dX10_init_591 : decode cX10_init 591 = .ok (.bipush 32, 2) := by decide +kernel
theorem dX10_init_593 : decode cX10_init 593 = .ok (.iastore, 1) := by decide +kernel
theorem dX10_init_594 : decode cX10_init 594 = .ok (.dup, 1) := by decide +kernel
theorem dX10_init_595 : decode cX10_init 595 = .ok (.bipush 51, 2) := by decide +kernel
theorem dX10_init_597 : decode cX10_init 597 = .ok (.bipush 59, 2) := by decide +kernel
theorem dX10_init_599 : decode cX10_init 599 = .ok (.iastore, 1) := by decide +kernel
theorem dX10_init_600 : decode cX10_init 600 = .ok (.dup, 1) := by decide +kernel
theorem dX10_init_601 : decode cX10_init 601 = .ok (.bipush 52, 2) := by decide +kernel
theorem dX10_init_603 : decode cX10_init 603 = .ok (.bipush 32, 2) := by decide +kernel
theorem dX10_init_605 : decode cX10_init 605 = .ok (.iastore, 1) := by decide +kernel
theorem dX10_init_606 : decode cX10_init 606 = .ok (.dup, 1) := by decide +kernel
theorem dX10_init_607 : decode cX10_init 607 = .ok (.bipush 53, 2) := by decide +kernel
theorem dX10_init_609 : decode cX10_init 609 = .ok (.bipush 106, 2) := by decide +kernel
theorem dX10_init_611 : decode cX10_init 611 = .ok (.iastore, 1) := by decide +kernel
theorem dX10_init_612 : decode cX10_init 612 = .ok (.dup, 1) := by decide +kernel
theorem dX10_init_613 : decode cX10_init 613 = .ok (.bipush 54, 2) := by decide +kernel
theorem dX10_init_615 : decode cX10_init 615 = .ok (.bipush 101, 2) := by decide +kernel
theorem dX10_init_617 : decode cX10_init 617 = .ok (.iastore, 1) := by decide +kernel
theorem dX10_init_618 : decode cX10_init 618 = .ok (.dup, 1) := by decide +kernel
theorem dX10_init_619 : decode cX10_init 619 = .ok (.bipush 55, 2) := by decide +kernel
theorem dX10_init_621 : decode cX10_init 621 = .ok (.bipush 114, 2) := by decide +kernel
theorem dX10_init_623 : decode cX10_init 623 = .ok (.iastore, 1) := by decide +kernel
theorem dX10_init_624 : decode cX10_init 624 = .ok (.dup, 1) := by decide +kernel
theorem dX10_init_625 : decode cX10_init 625 = .ok (.bipush 56, 2) := by decide +kernel
theorem dX10_init_627 : decode cX10_init 627 = .ok (.bipush 107, 2) := by decide +kernel
theorem dX10_init_629 : decode cX10_init 629 = .ok (.iastore, 1) := by decide +kernel
theorem dX10_init_630 : decode cX10_init 630 = .ok (.dup, 1) := by decide +kernel
theorem dX10_init_631 : decode cX10_init 631 = .ok (.bipush 57, 2) := by decide +kernel
theorem dX10_init_633 : decode cX10_init 633 = .ok (.bipush 32, 2) := by decide +kernel
theorem dX10_init_635 : decode cX10_init 635 = .ok (.iastore, 1) := by decide +kernel
theorem dX10_init_636 : decode cX10_init 636 = .ok (.dup, 1) := by decide +kernel
theorem dX10_init_637 : decode cX10_init 637 = .ok (.bipush 58, 2) := by decide +kernel
theorem dX10_init_639 : decode cX10_init 639 = .ok (.bipush 119, 2) := by decide +kernel
theorem dX10_init_641 : decode cX10_init 641 = .ok (.iastore, 1) := by decide +kernel
theorem dX10_init_642 : decode cX10_init 642 = .ok (.dup, 1) := by decide +kernel
theorem dX10_init_643 : decode cX10_init 643 = .ok (.bipush 59, 2) := by decide +kernel
theorem dX10_init_645 : decode cX10_init 645 = .ok (.bipush 105, 2) := by decide +kernel
theorem dX10_init_647 : decode cX10_init 647 = .ok (.iastore, 1) := by decide +kernel
theorem dX10_init_648 : decode cX10_init 648 = .ok (.dup, 1) := by decide +kernel
theorem dX10_init_649 : decode cX10_init 649 = .ok (.bipush 60, 2) := by decide +kernel
theorem dX10_init_651 : decode cX10_init 651 = .ok (.bipush 110, 2) := by decide +kernel
theorem dX10_init_653 : decode cX10_init 653 = .ok (.iastore, 1) := by decide +kernel
theorem dX10_init_654 : decode cX10_init 654 = .ok (.dup, 1) := by decide +kernel
theorem dX10_init_655 : decode cX10_init 655 = .ok (.bipush 61, 2) := by decide +kernel
theorem dX10_init_657 : decode cX10_init 657 = .ok (.bipush 100, 2) := by decide +kernel
theorem dX10_init_659 : decode cX10_init 659 = .ok (.iastore, 1) := by decide +kernel
theorem dX10_init_660 : decode cX10_init 660 = .ok (.dup, 1) := by decide +kernel
theorem dX10_init_661 : decode cX10_init 661 = .ok (.bipush 62, 2) := by decide +kernel
theorem dX10_init_663 : decode cX10_init 663 = .ok (.bipush 32, 2) := by decide +kernel
theorem dX10_init_665 : decode cX10_init 665 = .ok (.iastore, 1) := by decide +kernel
theorem dX10_init_666 : decode cX10_init 666 = .ok (.dup, 1) := by decide +kernel
theorem dX10_init_667 : decode cX10_init 667 = .ok (.bipush 63, 2) := by decide +kernel
theorem dX10_init_669 : decode cX10_init 669 = .ok (.bipush 45, 2) := by decide +kernel
theorem dX10_init_671 : decode cX10_init 671 = .ok (.iastore, 1) := by decide +kernel
theorem dX10_init_672 : decode cX10_init 672 = .ok (.dup, 1) := by decide +kernel
theorem dX10_init_673 : decode cX10_init 673 = .ok (.bipush 64, 2) := by decide +kernel
theorem dX10_init_675 : decode cX10_init 675 = .ok (.bipush 32, 2) := by decide +kernel
theorem dX10_init_677 : decode cX10_init 677 = .ok (.iastore, 1) := by decide +kernel
theorem dX10_init_678 : decode cX10_init 678 = .ok (.dup, 1) := by decide +kernel
theorem dX10_init_679 : decode cX10_init 679 = .ok (.bipush 65, 2) := by decide +kernel
theorem dX10_init_681 : decode cX10_init 681 = .ok (.bipush 111, 2) := by decide +kernel
theorem dX10_init_683 : decode cX10_init 683 = .ok (.iastore, 1) := by decide +kernel
theorem dX10_init_684 : decode cX10_init 684 = .ok (.dup, 1) := by decide +kernel
theorem dX10_init_685 : decode cX10_init 685 = .ok (.bipush 66, 2) := by decide +kernel
theorem dX10_init_687 : decode cX10_init 687 = .ok (.bipush 117, 2) := by decide +kernel
theorem dX10_init_689 : decode cX10_init 689 = .ok (.iastore, 1) := by decide +kernel
theorem dX10_init_690 : decode cX10_init 690 = .ok (.dup, 1) := by decide +kernel
theorem dX10_init_691 : decode cX10_init 691 = .ok (.bipush 67, 2) := by decide +kernel
theorem dX10_init_693 : decode cX10_init 693 = .ok (.bipush 116, 2) := by decide +kernel
theorem dX10_init_695 : decode cX10_init 695 = .ok (.iastore, 1) := by decide +kernel
theorem dX10_init_696 : decode cX10_init 696 = .ok (.dup, 1) := by decide +kernel
theorem dX10_init_697 : decode cX10_init 697 = .ok (.bipush 68, 2) := by decide +kernel
theorem dX10_init_699 : decode cX10_init 699 = .ok (.bipush 32, 2) := by decide +kernel
theorem dX10_init_701 : decode cX10_init 701 = .ok (.iastore, 1) := by decide +kernel
theorem dX10_init_702 : decode cX10_init 702 = .ok (.dup, 1) := by decide +kernel
theorem dX10_init_703 : decode cX10_init 703 = .ok (.bipush 69, 2) := by decide +kernel
theorem dX10_init_705 : decode cX10_init 705 = .ok (.bipush 59, 2) := by decide +kernel
theorem dX10_init_707 : decode cX10_init 707 = .ok (.iastore, 1) := by decide +kernel
theorem dX10_init_708 : decode cX10_init 708 = .ok (.putfield 85, 3) := by decide +kernel
theorem dX10_init_711 : decode cX10_init 711 = .ok (.aload_n 0, 1) := by decide +kernel
theorem dX10_init_712 : decode cX10_init 712 = .ok (.bipush 96, 2) := by decide +kernel
theorem dX10_init_714 : decode cX10_init 714 = .ok (.newarray .int, 2) := by decide +kernel
theorem dX10_init_716 : decode cX10_init 716 = .ok (.dup, 1) := by decide +kernel
theorem dX10_init_717 : decode cX10_init 717 = .ok (.iconst 0, 1) := by decide +kernel
theorem dX10_init_718 : decode cX10_init 718 = .ok (.bipush 112, 2) := by decide +kernel
theorem dX10_init_720 : decode cX10_init 720 = .ok (.iastore, 1) := by decide +kernel
theorem dX10_init_721 : decode cX10_init 721 = .ok (.dup, 1) := by decide +kernel
theorem dX10_init_722 : decode cX10_init 722 = .ok (.iconst 1, 1) := by decide +kernel
theorem dX10_init_723 : decode cX10_init 723 = .ok (.bipush 117, 2) := by decide +kernel
theorem dX10_init_725 : decode cX10_init 725 = .ok (.iastore, 1) := by decide +kernel
theorem dX10_init_726 : decode cX10_init 726 = .ok (.dup, 1) := by decide +kernel
theorem dX10_init_727 : decode cX10_init 727 = .ok (.iconst 2, 1) := by decide +kernel
theorem dX10_init_728 : decode cX10_init 728 = .ok (.bipush 108, 2) := by decide +kernel
theorem dX10_init_730 : decode cX10_init 730 = .ok (.iastore, 1) := by decide +kernel
theorem dX10_init_731 : decode cX10_init 731 = .ok (.dup, 1) := by decide +kernel
theorem dX10_init_732 : decode cX10_init 732 = .ok (.iconst 3, 1) := by decide +kernel
theorem dX10_init_733 : decode cX10_init 733 = .ok (.bipush 108, 2) := by decide +kernel
theorem dX10_init_735 : decode cX10_init 735 = .ok (.iastore, 1) := by decide +kernel
theorem dX10_init_736 : decode cX10_init 736 = .ok (.dup, 1) := by decide +kernel
theorem dX10_init_737 : decode cX10_init 737 = .ok (.iconst 4, 1) := by decide +kernel
theorem dX10_init_738 : decode cX10_init 738 = .ok (.bipush 32, 2) := by decide +kernel
theorem dX10_init_740 : decode cX10_init 740 = .ok (.iastore, 1) := by decide +kernel
theorem dX10_init_741 : decode cX10_init 741 = .ok (.dup, 1) := by decide +kernel
theorem dX10_init_742 : decode cX10_init 742 = .ok (.iconst 5, 1) := by decide +kernel
theorem dX10_init_743 : decode cX10_init 743 = .ok (.bipush 32, 2) := by decide +kernel
theorem dX10_init_745 : decode cX10_init 745 = .ok (.iastore, 1) := by decide +kernel
theorem dX10_init_746 : decode cX10_init 746 = .ok (.dup, 1) := by decide +kernel
theorem dX10_init_747 : decode cX10_init 747 = .ok (.bipush 6, 2) := by decide +kernel
theorem dX10_init_749 : decode cX10_init 749 = .ok (.bipush 32, 2) := by decide +kernel
theorem dX10_init_751 : decode cX10_init 751 = .ok (.iastore, 1) := by decide +kernel
theorem dX10_init_752 : decode cX10_init 752 = .ok (.dup, 1) := by decide +kernel
theorem dX10_init_753 : decode cX10_init 753 = .ok (.bipush 7, 2) := by decide +kernel
theorem dX10_init_755 : decode cX10_init 755 = .ok (.bipush 32, 2) := by decide +kernel
theorem dX10_init_757 : decode cX10_init 757 = .ok (.iastore, 1) := by decide +kernel
theorem dX10_init_758 : decode cX10_init 758 = .ok (.dup, 1) := by decide +kernel
theorem dX10_init_759 : decode cX10_init 759 = .ok (.bipush 8, 2) := by decide +kernel
theorem dX10_init_761 : decode cX10_init 761 = .ok (.bipush 104, 2) := by decide +kernel
theorem dX10_init_763 : decode cX10_init 763 = .ok (.iastore, 1) := by decide +kernel
theorem dX10_init_764 : decode cX10_init 764 = .ok (.dup, 1) := by decide +kernel
theorem dX10_init_765 : decode cX10_init 765 = .ok (.bipush 9, 2) := by decide +kernel
theorem dX10_init_767 : decode cX10_init 767 = .ok (.bipush 111, 2) := by decide +kernel
theorem dX10_init_769 : decode cX10_init 769 = .ok (.iastore, 1) := by decide +kernel
theorem dX10_init_770 : decode cX10_init 770 = .ok (.dup, 1) := by decide +kernel
theorem dX10_init_771 : decode cX10_init 771 = .ok (.bipush 10, 2) := by decide +kernel
theorem dX10_init_773 : decode cX10_init 773 = .ok (.bipush 108, 2) := by decide +kernel
theorem dX10_init_775 : decode cX10_init 775 = .ok (.iastore, 1) := by decide +kernel
theorem dX10_init_776 : decode cX10_init 776 = .ok (.dup, 1) := by decide +kernel
theorem dX10_init_777 : decode cX10_init 777 = .ok (.bipush 11, 2) := by decide +kernel
theorem dX10_init_779 : decode cX10_init 779 = .ok (.bipush 100, 2) := by decide +kernel
theorem dX10_init_781 : decode cX10_init 781 = .ok (.iastore, 1) := by decide +kernel
theorem dX10_init_782 : decode cX10_init 782 = .ok (.dup, 1) := by decide +kernel
theorem dX10_init_783 : decode cX10_init 783 = .ok (.bipush 12, 2) := by decide +kernel
theorem dX10_init_785 : decode cX10_init 785 = .ok (.bipush 32, 2) := by decide +kernel
theorem dX10_init_787 : decode cX10_init 787 = .ok (.iastore, 1) := by decide +kernel
theorem dX10_init_788 : decode cX10_init 788 = .ok (.dup, 1) := by decide +kernel
theorem dX10_init_789 : decode cX10_init 789 = .ok (.bipush 13, 2) := by decide +kernel
theorem dX10_init_791 : decode cX10_init 791 = .ok (.bipush 32, 2) := by decide +kernel
theorem dX10_init_793 : decode cX10_init 793 = .ok (.iastore, 1) := by decide +kernel
theorem dX10_init_794 : decode cX10_init 794 = .ok (.dup, 1) := by decide +kernel
theorem dX10_init_795 : decode cX10_init 795 = .ok (.bipush 14, 2) := by decide +kernel
theorem dX10_init_797 : decode cX10_init 797 = .ok (.bipush 32, 2) := by decide +kernel
theorem dX10_init_799 : decode cX10_init 799 = .ok (.iastore, 1) := by decide +kernel
theorem dX10_init_800 : decode cX10_init 800 = .ok (.dup, 1) := by decide +kernel
theorem dX10_init_801 : decode cX10_init 801 = .ok (.bipush 15, 2) := by decide +kernel
theorem dX10_init_803 : decode cX10_init 803 = .ok (.bipush 32, 2) := by decide +kernel
theorem dX10_init_805 : decode cX10_init 805 = .ok (.iastore, 1) := by decide +kernel
theorem dX10_init_806 : decode cX10_init 806 = .ok (.dup, 1) := by decide +kernel
theorem dX10_init_807 : decode cX10_init 807 = .ok (.bipush 16, 2) := by decide +kernel
theorem dX10_init_809 : decode cX10_init 809 = .ok (.bipush 106, 2) := by decide +kernel
theorem dX10_init_811 : decode cX10_init 811 = .ok (.iastore, 1) := by decide +kernel
theorem dX10_init_812 : decode cX10_init 812 = .ok (.dup, 1) := by decide +kernel
theorem dX10_init_813 : decode cX10_init 813 = .ok (.bipush 17, 2) := by decide +kernel
theorem dX10_init_815 : decode cX10_init 815 = .ok (.bipush 101, 2) := by decide +kernel
theorem dX10_init_817 : decode cX10_init 817 = .ok (.iastore, 1) := by decide +kernel
theorem dX10_init_818 : decode cX10_init 818 = .ok (.dup, 1) := by decide +kernel
theorem dX10_init_819 : decode cX10_init 819 = .ok (.bipush 18, 2) := by decide +kernel
theorem dX10_init_821 : decode cX10_init 821 = .ok (.bipush 114, 2) := by decide +kernel
theorem dX10_init_823 : decode cX10_init 823 = .ok (.iastore, 1) := by decide +kernel
theorem dX10_init_824 : decode cX10_init 824 = .ok (.dup, 1) := by decide +kernel
theorem dX10_init_825 : decode cX10_init 825 = .ok (.bipush 19, 2) := by decide +kernel
theorem dX10_init_827 : decode cX10_init 827 = .ok (.bipush 107, 2) := by decide +kernel
theorem dX10_init_829 : decode cX10_init 829 = .ok (.iastore, 1) := by decide +kernel
theorem dX10_init_830 : decode cX10_init 830 = .ok (.dup, 1) := by decide +kernel
theorem dX10_init_831 : decode cX10_init 831 = .ok (.bipush 20, 2) := by decide +kernel
theorem dX10_init_833 : decode cX10_init 833 = .ok (.bipush 32, 2) := by decide +kernel
theorem dX10_init_835 : decode cX10_init 835 = .ok (.iastore, 1) := by decide +kernel
theorem dX10_init_836 : decode cX10_init 836 = .ok (.dup, 1) := by decide +kernel
theorem dX10_init_837 : decode cX10_init 837 = .ok (.bipush 21, 2) := by decide +kernel
theorem dX10_init_839 : decode cX10_init 839 = .ok (.bipush 32, 2) := by decide +kernel
theorem dX10_init_841 : decode cX10_init 841 = .ok (.iastore, 1) := by decide +kernel
theorem dX10_init_842 : decode cX10_init 842 = .ok (.dup, 1) := by decide +kernel
theorem dX10_init_843 : decode cX10_init 843 = .ok (.bipush 22, 2) := by decide +kernel
theorem dX10_init_845 : decode cX10_init 845 = .ok (.bipush 32, 2) := by decide +kernel
theorem dX10_init_847 : decode cX10_init 847 = .ok (.iastore, 1) := by decide +kernel
theorem dX10_init_848 : decode cX10_init 848 = .ok (.dup, 1) := by decide +kernel
theorem dX10_init_849 : decode cX10_init 849 = .ok (.bipush 23, 2) := by decide +kernel
theorem dX10_init_851 : decode cX10_init 851 = .ok (.bipush 32, 2) := by decide +kernel
theorem dX10_init_853 : decode cX10_init 853 = .ok (.iastore, 1) := by decide +kernel
theorem dX10_init_854 : decode cX10_init 854 = .ok (.dup, 1) := by decide +kernel
theorem dX10_init_855 : decode cX10_init 855 = .ok (.bipush 24, 2) := by decide +kernel
theorem dX10_init_857 : decode cX10_init 857 = .ok (.bipush 119, 2) := by decide +kernel
theorem dX10_init_859 : decode cX10_init 859 = .ok (.iastore, 1) := by decide +kernel
theorem dX10_init_860 : decode cX10_init 860 = .ok (.dup, 1) := by decide +kernel
theorem dX10_init_861 : decode cX10_init 861 = .ok (.bipush 25, 2) := by decide +kernel
theorem dX10_init_863 : decode cX10_init 863 = .ok (.bipush 105, 2) := by decide +kernel
theorem dX10_init_865 : decode cX10_init 865 = .ok (.iastore, 1) := by decide +kernel
theorem dX10_init_866 : decode cX10_init 866 = .ok (.dup, 1) := by decide +kernel
theorem dX10_init_867 : decode cX10_init 867 = .ok (.bipush 26, 2) := by decide +kernel
theorem dX10_init_869 : decode cX10_init 869 = .ok (.bipush 110, 2) := by decide +kernel
theorem dX10_init_871 : decode cX10_init 871 = .ok (.iastore, 1) := by decide +kernel
theorem dX10_init_872 : decode cX10_init 872 = .ok (.dup, 1) := by decide +kernel
theorem dX10_init_873 : decode cX10_init 873 = .ok (.bipush 27, 2) := by decide +kernel
theorem dX10_init_875 : decode cX10_init 875 = .ok (.bipush 100, 2) := by decide +kernel
theorem dX10_init_877 : decode cX10_init 877 = .ok (.iastore, 1) := by decide +kernel
theorem dX10_init_878 : decode cX10_init 878 = .ok (.dup, 1) := by decide +kernel
theorem dX10_init_879 : decode cX10_init 879 = .ok (.bipush 28, 2) := by decide +kernel
theorem dX10_init_881 : decode cX10_init 881 = .ok (.bipush 32, 2) := by decide +kernel
theorem dX10_init_883 : decode cX10_init 883 = .ok (.iastore, 1) := by decide +kernel
theorem dX10_init_884 : decode cX10_init 884 = .ok (.dup, 1) := by decide +kernel
theorem dX10_init_885 : decode cX10_init 885 = .ok (.bipush 29, 2) := by decide +kernel
theorem dX10_init_887 : decode cX10_init 887 = .ok (.bipush 32, 2) := by decide +kernel
theorem dX10_init_889 : decode cX10_init 889 = .ok (.iastore, 1) := by decide +kernel
theorem dX10_init_890 : decode cX10_init 890 = .ok (.dup, 1) := by decide +kernel
theorem dX10_init_891 : decode cX10_init 891 = .ok (.bipush 30, 2) := by decide +kernel
theorem dX10_init_893 : decode cX10_init 893 = .ok (.bipush 32, 2) := by decide +kernel
theorem dX10_init_895 : decode cX10_init 895 = .ok (.iastore, 1) := by decide +kernel
theorem dX10_init_896 : decode cX10_init 896 = .ok (.dup, 1) := by decide +kernel
theorem dX10_init_897 : decode cX10_init 897 = .ok (.bipush 31, 2) := by decide +kernel
theorem dX10_init_899 : decode cX10_init 899 = .ok (.bipush 32, 2) := by decide +kernel
theorem dX10_init_901 : decode cX10_init 901 = .ok (.iastore, 1) := by decide +kernel
theorem dX10_init_902 : decode cX10_init 902 = .ok (.dup, 1) := by decide +kernel
theorem dX10_init_903 : decode cX10_init 903 = .ok (.bipush 32, 2) := by decide +kernel
theorem dX10_init_905 : decode cX10_init 905 = .ok (.bipush 97, 2) := by decide +kernel
theorem dX10_init_907 : decode cX10_init 907 = .ok (.iastore, 1) := by decide +kernel
theorem dX10_init_908 : decode cX10_init 908 = .ok (.dup, 1) := by decide +kernel
theorem dX10_init_909 : decode cX10_init 909 = .ok (.bipush 33, 2) := by decide +kernel
theorem dX10_init_911 : decode cX10_init 911 = .ok (.bipush 114, 2) := by decide +kernel
theorem dX10_init_913 : decode cX10_init 913 = .ok (.iastore, 1) := by decide +kernel
theorem dX10_init_914 : decode cX10_init 914 = .ok (.dup, 1) := by decide +kernel
theorem dX10_init_915 : decode cX10_init 915 = .ok (.bipush 34, 2) := by decide +kernel
theorem dX10_init_917 : decode cX10_init 917 = .ok (.bipush 101, 2) := by decide +kernel
theorem dX10_init_919 : decode cX10_init 919 = .ok (.iastore, 1) := by decide +kernel
theorem dX10_init_920 : decode cX10_init 920 = .ok (.dup, 1) := by decide +kernel
theorem dX10_init_921 : decode cX10_init 921 = .ok (.bipush 35, 2) := by decide +kernel
theorem dX10_init_923 : decode cX10_init 923 = .ok (.bipush 97, 2) := by decide +kernel
theorem dX10_init_925 : decode cX10_init 925 = .ok (.iastore, 1) := by decide +kernel
theorem dX10_init_926 : decode cX10_init 926 = .ok (.dup, 1) := by decide +kernel
theorem dX10_init_927 : decode cX10_init 927 = .ok (.bipush 36, 2) := by decide +kernel
theorem dX10_init_929 : decode cX10_init 929 = .ok (.bipush 32, 2) := by decide +kernel
theorem dX10_init_931 : decode cX10_init 931 = .ok (.iastore, 1) := by decide +kernel
theorem dX10_init_932 : decode cX10_init 932 = .ok (.dup, 1) := by decide +kernel
theorem dX10_init_933 : decode cX10_init 933 = .ok (.bipush 37, 2) := by decide +kernel
theorem dX10_init_935 : decode cX10_init 935 = .ok (.bipush 32, 2) := by decide +kernel
theorem dX10_init_937 : decode cX10_init 937 = .ok (.iastore, 1) := by decide +kernel
theorem dX10_init_938 : decode cX10_init 938 = .ok (.dup, 1) := by decide +kernel
theorem dX10_init_939 : decode cX10_init 939 = .ok (.bipush 38, 2) := by decide +kernel
theorem dX10_init_941 : decode cX10_init 941 = .ok (.bipush 32, 2) := by decide +kernel
theorem dX10_init_943 : decode cX10_init 943 = .ok (.iastore, 1) := by decide +kernel
theorem dX10_init_944 : decode cX10_init 944 = .ok (.dup, 1) := by decide +kernel
theorem dX10_init_945 : decode cX10_init 945 = .ok (.bipush 39, 2) := by decide +kernel
theorem dX10_init_947 : decode cX10_init 947 = .ok (.bipush 32, 2) := by decide +kernel
theorem dX10_init_949 : decode cX10_init 949 = .ok (.iastore, 1) := by decide +kernel
theorem dX10_init_950 : decode cX10_init 950 = .ok (.dup, 1) := by decide +kernel
theorem dX10_init_951 : decode cX10_init 951 = .ok (.bipush 40, 2) := by decide +kernel
theorem dX10_init_953 : decode cX10_init 953 = .ok (.bipush 100, 2) := by decide +kernel
theorem dX10_init_955 : decode cX10_init 955 = .ok (.iastore, 1) := by decide +kernel
theorem dX10_init_956 : decode cX10_init 956 = .ok (.dup, 1) := by decide +kernel
theorem dX10_init_957 : decode cX10_init 957 = .ok (.bipush 41, 2) := by decide +kernel
theorem dX10_init_959 : decode cX10_init 959 = .ok (.bipush 101, 2) := by decide +kernel
theorem dX10_init_961 : decode cX10_init 961 = .ok (.iastore, 1) := by decide +kernel
theorem dX10_init_962 : decode cX10_init 962 = .ok (.dup, 1) := by decide +kernel
theorem dX10_init_963 : decode cX10_init 963 = .ok (.bipush 42, 2) := by decide +kernel
theorem dX10_init_965 : decode cX10_init 965 = .ok (.bipush 101, 2) := by decide +kernel
theorem dX10_init_967 : decode cX10_init 967 = .ok (.iastore, 1) := by decide +kernel
theorem dX10_init_968 : decode cX10_init 968 = .ok (.dup, 1) := by decide +kernel
theorem dX10_init_969 : decode cX10_init 969 = .ok (.bipush 43, 2) := by decide +kernel
theorem dX10_init_971 : decode cX10_init 971 = .ok (.bipush 112, 2) := by decide +kernel
theorem dX10_init_973 : decode cX10_init 973 = .ok (.iastore, 1) := by decide +kernel
theorem dX10_init_974 : decode cX10_init 974 = .ok (.dup, 1) := by decide +kernel
theorem dX10_init_975 : decode cX10_init 975 = .ok (.bipush 44, 2) := by decide +kernel
theorem dX10_init_977 : decode cX10_init 977 = .ok (.bipush 32, 2) := by decide +kernel
theorem dX10_init_979 : decode cX10_init 979 = .ok (.iastore, 1) := by decide +kernel
theorem dX10_init_980 : decode cX10_init 980 = .ok (.dup, 1) := by decide +kernel
theorem dX10_init_981 : decode cX10_init 981 = .ok (.bipush 45, 2) := by decide +kernel
theorem dX10_init_983 : decode cX10_init 983 = .ok (.bipush 32, 2) := by decide +kernel
theorem dX10_init_985 : decode cX10_init 985 = .ok (.iastore, 1) := by decide +kernel
theorem dX10_init_986 : decode cX10_init 986 = .ok (.dup, 1) := by decide +kernel
theorem dX10_init_987 : decode cX10_init 987 = .ok (.bipush 46, 2) := by decide +kernel
theorem dX10_init_989 : decode cX10_init 989 = .ok (.bipush 32, 2) := by decide +kernel
theorem dX10_init_991 : decode cX10_init 991 = .ok (.iastore, 1) := by decide +kernel
theorem dX10_init_992 : decode cX10_init 992 = .ok (.dup, 1) := by decide +kernel
theorem dX10_init_993 : decode cX10_init 993 = .ok (.bipush 47, 2) := by decide +kernel
theorem dX10_init_995 : decode cX10_init 995 = .ok (.bipush 32, 2) := by decide +kernel
theorem dX10_init_997 : decode cX10_init 997 = .ok (.iastore, 1) := by decide +kernel
theorem dX10_init_998 : decode cX10_init 998 = .ok (.dup, 1) := by decide +kernel
theorem dX10_init_999 : decode cX10_init 999 = .ok (.bipush 48, 2) := by decide +kernel
theorem dX10_init_1001 : decode cX10_init 1001 = .ok (.bipush 111, 2) := by decide +kernel
theorem dX10_init_1003 : decode cX10_init 1003 = .ok (.iastore, 1) := by decide +kernel
theorem dX10_init_1004 : decode cX10_init 1004 = .ok (.dup, 1) := by decide +kernel
theorem dX10_init_1005 : decode cX10_init 1005 = .ok (.bipush 49, 2) := by decide +kernel
theorem dX10_init_1007 : decode cX10_init 1007 = .ok (.bipush 117, 2) := by decide +kernel
theorem dX10_init_1009 : decode cX10_init 1009 = .ok (.iastore, 1) := by decide +kernel
theorem dX10_init_1010 : decode cX10_init 1010 = .ok (.dup, 1) := by decide +kernel
theorem dX10_init_1011 : decode cX10_init 1011 = .ok (.bipush 50, 2) := by decide +kernel
theorem dX10_init_1013 : decode cX10_init 1013 = .ok (.bipush 116, 2) := by decide +kernel
theorem dX10_init_1015 : decode cX10_init 1015 = .ok (.iastore, 1) := by decide +kernel
theorem dX10_init_1016 : decode cX10_init 1016 = .ok (.dup, 1) := by decide +kernel
theorem dX10_init_1017 : decode cX10_init 1017 = .ok (.bipush 51, 2) := by decide +kernel
theorem dX10_init_1019 : decode cX10_init 1019 = .ok (.bipush 32, 2) := by decide +kernel
theorem dX10_init_1021 : decode cX10_init 1021 = .ok (.iastore, 1) := by decide +kernel
theorem dX10_init_1022 : decode cX10_init 1022 = .ok (.dup, 1) := by decide +kernel
theorem dX10_init_1023 : decode cX10_init 1023 = .ok (.bipush 52, 2) := by decide +kernel
theorem dX10_init_1025 : decode cX10_init 1025 = .ok (.bipush 32, 2) := by decide +kernel
theorem dX10_init_1027 : decode cX10_init 1027 = .ok (.iastore, 1) := by decide +kernel
theorem dX10_init_1028 : decode cX10_init 1028 = .ok (.dup, 1) := by decide +kernel
theorem dX10_init_1029 : decode cX10_init 1029 = .ok (.bipush 53, 2) := by decide +kernel
theorem dX10_init_1031 : decode cX10_init 1031 = .ok (.bipush 32, 2) := by decide +kernel
theorem dX10_init_1033 : decode cX10_init 1033 = .ok (.iastore, 1) := by decide +kernel
theorem dX10_init_1034 : decode cX10_init 1034 = .ok (.dup, 1) := by decide +kernel
theorem dX10_init_1035 : decode cX10_init 1035 = .ok (.bipush 54, 2) := by decide +kernel
theorem dX10_init_1037 : decode cX10_init 1037 = .ok (.bipush 32, 2) := by decide +kernel
theorem dX10_init_1039 : decode cX10_init 1039 = .ok (.iastore, 1) := by decide +kernel
theorem dX10_init_1040 : decode cX10_init 1040 = .ok (.dup, 1) := by decide +kernel
theorem dX10_init_1041 : decode cX10_init 1041 = .ok (.bipush 55, 2) := by decide +kernel
theorem dX10_init_1043 : decode cX10_init 1043 = .ok (.bipush 32, 2) := by decide +kernel
theorem dX10_init_1045 : decode cX10_init 1045 = .ok (.iastore, 1) := by decide +kernel
theorem dX10_init_1046 : decode cX10_init 1046 = .ok (.dup, 1) := by decide +kernel
theorem dX10_init_1047 : decode cX10_init 1047 = .ok (.bipush 56, 2) := by decide +kernel
theorem dX10_init_1049 : decode cX10_init 1049 = .ok (.bipush 98, 2) := by decide +kernel
theorem dX10_init_1051 : decode cX10_init 1051 = .ok (.iastore, 1) := by decide +kernel
theorem dX10_init_1052 : decode cX10_init 1052 = .ok (.dup, 1) := by decide +kernel
theorem dX10_init_1053 : decode cX10_init 1053 = .ok (.bipush 57, 2) := by decide +kernel
theorem dX10_init_1055 : decode cX10_init 1055 = .ok (.bipush 101, 2) := by decide +kernel
theorem dX10_init_1057 : decode cX10_init 1057 = .ok (.iastore, 1) := by decide +kernel
theorem dX10_init_1058 : decode cX10_init 1058 = .ok (.dup, 1) := by decide +kernel
theorem dX10_init_1059 : decode cX10_init 1059 = .ok (.bipush 58, 2) := by decide +kernel
theorem dX10_init_1061 : decode cX10_init 1061 = .ok (.bipush 100, 2) := by decide +kernel
theorem dX10_init_1063 : decode cX10_init 1063 = .ok (.iastore, 1) := by decide +kernel
theorem dX10_init_1064 : decode cX10_init 1064 = .ok (.dup, 1) := by decide +kernel
theorem dX10_init_1065 : decode cX10_init 1065 = .ok (.bipush 59, 2) := by decide +kernel
theorem dX10_init_1067 : decode cX10_init 1067 = .ok (.bipush 32, 2) := by decide +kernel
theorem dX10_init_1069 : decode cX10_init 1069 = .ok (.iastore, 1) := by decide +kernel
theorem dX10_init_1070 : decode cX10_init 1070 = .ok (.dup, 1) := by decide +kernel
theorem dX10_init_1071 : decode cX10_init 1071 = .ok (.bipush 60, 2) := by decide +kernel
theorem dX10_init_1073 : decode cX10_init 1073 = .ok (.bipush 32, 2) := by decide +kernel
theorem dX10_init_1075 : decode cX10_init 1075 = .ok (.iastore, 1) := by decide +kernel
theorem dX10_init_1076 : decode cX10_init 1076 = .ok (.dup, 1) := by decide +kernel
theorem dX10_init_1077 : decode cX10_init 1077 = .ok (.bipush 61, 2) := by decide +kernel
theorem dX10_init_1079 : decode cX10_init 1079 = .ok (.bipush 32, 2) := by decide +kernel
theorem dX10_init_1081 : decode cX10_init 1081 = .ok (.iastore, 1) := by decide +kernel
theorem dX10_init_1082 : decode cX10_init 1082 = .ok (.dup, 1) := by decide +kernel
theorem dX10_init_1083 : decode cX10_init 1083 = .ok (.bipush 62, 2) := by decide +kernel
theorem dX10_init_1085 : decode cX10_init 1085 = .ok (.bipush 32, 2) := by decide +kernel
theorem dX10_init_1087 : decode cX10_init 1087 = .ok (.iastore, 1) := by decide +kernel
theorem dX10_init_1088 : decode cX10_init 1088 = .ok (.dup, 1) := by decide +kernel
theorem dX10_init_1089 : decode cX10_init 1089 = .ok (.bipush 63, 2) := by decide +kernel
theorem dX10_init_1091 : decode cX10_init 1091 = .ok (.bipush 32, 2) := by decide +kernel
theorem dX10_init_1093 : decode cX10_init 1093 = .ok (.iastore, 1) := by decide +kernel
theorem dX10_init_1094 : decode cX10_init 1094 = .ok (.dup, 1) := by decide +kernel
theorem dX10_init_1095 : decode cX10_init 1095 = .ok (.bipush 64, 2) := by decide +kernel
theorem dX10_init_1097 : decode cX10_init 1097 = .ok (.bipush 104, 2) := by decide +kernel
theorem dX10_init_1099 : decode cX10_init 1099 = .ok (.iastore, 1) := by decide +kernel
theorem dX10_init_1100 : decode cX10_init 1100 = .ok (.dup, 1) := by decide +kernel
theorem dX10_init_1101 : decode cX10_init 1101 = .ok (.bipush 65, 2) := by decide +kernel
theorem dX10_init_1103 : decode cX10_init 1103 = .ok (.bipush 101, 2) := by decide +kernel
theorem dX10_init_1105 : decode cX10_init 1105 = .ok (.iastore, 1) := by decide +kernel
theorem dX10_init_1106 : decode cX10_init 1106 = .ok (.dup, 1) := by decide +kernel
theorem dX10_init_1107 : decode cX10_init 1107 = .ok (.bipush 66, 2) := by decide +kernel
theorem dX10_init_1109 : decode cX10_init 1109 = .ok (.bipush 97, 2) := by decide +kernel
theorem dX10_init_1111 : decode cX10_init 1111 = .ok (.iastore, 1) := by decide +kernel
theorem dX10_init_1112 : decode cX10_init 1112 = .ok (.dup, 1) := by decide +kernel
theorem dX10_init_1113 : decode cX10_init 1113 = .ok (.bipush 67, 2) := by decide +kernel
theorem dX10_init_1115 : decode cX10_init 1115 = .ok (.bipush 118, 2) := by decide +kernel
theorem dX10_init_1117 : decode cX10_init 1117 = .ok (.iastore, 1) := by decide +kernel
theorem dX10_init_1118 : decode cX10_init 1118 = .ok (.dup, 1) := by decide +kernel
theorem dX10_init_1119 : decode cX10_init 1119 = .ok (.bipush 68, 2) := by decide +kernel
theorem dX10_init_1121 : decode cX10_init 1121 = .ok (.bipush 121, 2) := by decide +kernel
theorem dX10_init_1123 : decode cX10_init 1123 = .ok (.iastore, 1) := by decide +kernel
theorem dX10_init_1124 : decode cX10_init 1124 = .ok (.dup, 1) := by decide +kernel
theorem dX10_init_1125 : decode cX10_init 1125 = .ok (.bipush 69, 2) := by decide +kernel
theorem dX10_init_1127 : decode cX10_init 1127 = .ok (.bipush 32, 2) := by decide +kernel
theorem dX10_init_1129 : decode cX10_init 1129 = .ok (.iastore, 1) := by decide +kernel
theorem dX10_init_1130 : decode cX10_init 1130 = .ok (.dup, 1) := by decide +kernel
theorem dX10_init_1131 : decode cX10_init 1131 = .ok (.bipush 70, 2) := by decide +kernel
theorem dX10_init_1133 : decode cX10_init 1133 = .ok (.bipush 32, 2) := by decide +kernel
theorem dX10_init_1135 : decode cX10_init 1135 = .ok (.iastore, 1) := by decide +kernel
theorem dX10_init_1136 : decode cX10_init 1136 = .ok (.dup, 1) := by decide +kernel
theorem dX10_init_1137 : decode cX10_init 1137 = .ok (.bipush 71, 2) := by decide +kernel
theorem dX10_init_1139 : decode cX10_init 1139 = .ok (.bipush 32, 2) := by decide +kernel
theorem dX10_init_1141 : decode cX10_init 1141 = .ok (.iastore, 1) := by decide +kernel
theorem dX10_init_1142 : decode cX10_init 1142 = .ok (.dup, 1) := by decide +kernel
theorem dX10_init_1143 : decode cX10_init 1143 = .ok (.bipush 72, 2) := by decide +kernel
theorem dX10_init_1145 : decode cX10_init 1145 = .ok (.bipush 111, 2) := by decide +kernel
theorem dX10_init_1147 : decode cX10_init 1147 = .ok (.iastore, 1) := by decide +kernel
theorem dX10_init_1148 : decode cX10_init 1148 = .ok (.dup, 1) := by decide +kernel
theorem dX10_init_1149 : decode cX10_init 1149 = .ok (.bipush 73, 2) := by decide +kernel
theorem dX10_init_1151 : decode cX10_init 1151 = .ok (.bipush 114, 2) := by decide +kernel
theorem dX10_init_1153 : decode cX10_init 1153 = .ok (.iastore, 1) := by decide +kernel
theorem dX10_init_1154 : decode cX10_init 1154 = .ok (.dup, 1) := by decide +kernel
theorem dX10_init_1155 : decode cX10_init 1155 = .ok (.bipush 74, 2) := by decide +kernel
theorem dX10_init_1157 : decode cX10_init 1157 = .ok (.bipush 32, 2) := by decide +kernel
theorem dX10_init_1159 : decode cX10_init 1159 = .ok (.iastore, 1) := by decide +kernel
theorem dX10_init_1160 : decode cX10_init 1160 = .ok (.dup, 1) := by decide +kernel
theorem dX10_init_1161 : decode cX10_init 1161 = .ok (.bipush 75, 2) := by decide +kernel
theorem dX10_init_1163 : decode cX10_init 1163 = .ok (.bipush 32, 2) := by decide +kernel
theorem dX10_init_1165 : decode cX10_init 1165 = .ok (.iastore, 1) := by decide +kernel
theorem dX10_init_1166 : decode cX10_init 1166 = .ok (.dup, 1) := by decide +kernel
theorem dX10_init_1167 : decode cX10_init 1167 = .ok (.bipush 76, 2) := by decide +kernel
theorem dX10_init_1169 : decode cX10_init 1169 = .ok (.bipush 32, 2) := by decide +kernel
theorem dX10_init_1171 : decode cX10_init 1171 = .ok (.iastore, 1) := by decide +kernel
theorem dX10_init_1172 : decode cX10_init 1172 = .ok (.dup, 1) := by decide +kernel
theorem dX10_init_1173 : decode cX10_init 1173 = .ok (.bipush 77, 2) := by decide +kernel
theorem dX10_init_1175 : decode cX10_init 1175 = .ok (.bipush 32, 2) := by decide +kernel
theorem dX10_init_1177 : decode cX10_init 1177 = .ok (.iastore, 1) := by decide +kernel
theorem dX10_init_1178 : decode cX10_init 1178 = .ok (.dup, 1) := by decide +kernel
theorem dX10_init_1179 : decode cX10_init 1179 = .ok (.bipush 78, 2) := by decide +kernel
theorem dX10_init_1181 : decode cX10_init 1181 = .ok (.bipush 32, 2) := by decide +kernel
theorem dX10_init_1183 : decode cX10_init 1183 = .ok (.iastore, 1) := by decide +kernel
theorem dX10_init_1184 : decode cX10_init 1184 = .ok (.dup, 1) := by decide +kernel
theorem dX10_init_1185 : decode cX10_init 1185 = .ok (.bipush 79, 2) := by decide +kernel
theorem dX10_init_1187 : decode cX10_init 1187 = .ok (.bipush 32, 2) := by decide +kernel
theorem dX10_init_1189 : decode cX10_init 1189 = .ok (.iastore, 1) := by decide +kernel
theorem dX10_init_1190 : decode cX10_init 1190 = .ok (.dup, 1) := by decide +kernel
theorem dX10_init_1191 : decode cX10_init 1191 = .ok (.bipush 80, 2) := by decide +kernel
theorem dX10_init_1193 : decode cX10_init 1193 = .ok (.bipush 97, 2) := by decide +kernel
theorem dX10_init_1195 : decode cX10_init 1195 = .ok (.iastore, 1) := by decide +kernel
theorem dX10_init_1196 : decode cX10_init 1196 = .ok (.dup, 1) := by decide +kernel
theorem dX10_init_1197 : decode cX10_init 1197 = .ok (.bipush 81, 2) := by decide +kernel
theorem dX10_init_1199 : decode cX10_init 1199 = .ok (.bipush 110, 2) := by decide +kernel
theorem dX10_init_1201 : decode cX10_init 1201 = .ok (.iastore, 1) := by decide +kernel
theorem dX10_init_1202 : decode cX10_init 1202 = .ok (.dup, 1) := by decide +kernel
theorem dX10_init_1203 : decode cX10_init 1203 = .ok (.bipush 82, 2) := by decide +kernel
theorem dX10_init_1205 : decode cX10_init 1205 = .ok (.bipush 100, 2) := by decide +kernel
theorem dX10_init_1207 : decode cX10_init 1207 = .ok (.iastore, 1) := by decide +kernel
theorem dX10_init_1208 : decode cX10_init 1208 = .ok (.dup, 1) := by decide +kernel
theorem dX10_init_1209 : decode cX10_init 1209 = .ok (.bipush 83, 2) := by decide +kernel
theorem dX10_init_1211 : decode cX10_init 1211 = .ok (.bipush 32, 2) := by decide +kernel
theorem dX10_init_1213 : decode cX10_init 1213 = .ok (.iastore, 1) := by decide +kernel
theorem dX10_init_1214 : decode cX10_init 1214 = .ok (.dup, 1) := by decide +kernel
theorem dX10_init_1215 : decode cX10_init 1215 = .ok (.bipush 84, 2) := by decide +kernel
theorem dX10_init_1217 : decode cX10_init 1217 = .ok (.bipush 32, 2) := by decide +kernel
theorem dX10_init_1219 : decode cX10_init 1219 = .ok (.iastore, 1) := by decide +kernel
theorem dX10_init_1220 : decode cX10_init 1220 = .ok (.dup, 1) := by decide +kernel
theorem dX10_init_1221 : decode cX10_init 1221 = .ok (.bipush 85, 2) := by decide +kernel
theorem dX10_init_1223 : decode cX10_init 1223 = .ok (.bipush 32, 2) := by decide +kernel
theorem dX10_init_1225 : decode cX10_init 1225 = .ok (.iastore, 1) := by decide +kernel
theorem dX10_init_1226 : decode cX10_init 1226 = .ok (.dup, 1) := by decide +kernel
theorem dX10_init_1227 : decode cX10_init 1227 = .ok (.bipush 86, 2) := by decide +kernel
theorem dX10_init_1229 : decode cX10_init 1229 = .ok (.bipush 32, 2) := by decide +kernel
theorem dX10_init_1231 : decode cX10_init 1231 = .ok (.iastore, 1) := by decide +kernel
theorem dX10_init_1232 : decode cX10_init 1232 = .ok (.dup, 1) := by decide +kernel
theorem dX10_init_1233 : decode cX10_init 1233 = .ok (.bipush 87, 2) := by decide +kernel
theorem dX10_init_1235 : decode cX10_init 1235 = .ok (.bipush 32, 2) := by decide +kernel
theorem dX10_init_1237 : decode cX10_init 1237 = .ok (.iastore, 1) := by decide +kernel
theorem dX10_init_1238 : decode cX10_init 1238 = .ok (.dup, 1) := by decide +kernel
theorem dX10_init_1239 : decode cX10_init 1239 = .ok (.bipush 88, 2) := by decide +kernel
theorem dX10_init_1241 : decode cX10_init 1241 = .ok (.bipush 110, 2) := by decide +kernel
theorem dX10_init_1243 : decode cX10_init 1243 = .ok (.iastore, 1) := by decide +kernel
theorem dX10_init_1244 : decode cX10_init 1244 = .ok (.dup, 1) := by decide +kernel
theorem dX10_init_1245 : decode cX10_init 1245 = .ok (.bipush 89, 2) := by decide +kernel
theorem dX10_init_1247 : decode cX10_init 1247 = .ok (.bipush 111, 2) := by decide +kernel
theorem dX10_init_1249 : decode cX10_init 1249 = .ok (.iastore, 1) := by decide +kernel
theorem dX10_init_1250 : decode cX10_init 1250 = .ok (.dup, 1) := by decide +kernel
theorem dX10_init_1251 : decode cX10_init 1251 = .ok (.bipush 90, 2) := by decide +kernel
theorem dX10_init_1253 : decode cX10_init 1253 = .ok (.bipush 116, 2) := by decide +kernel
theorem dX10_init_1255 : decode cX10_init 1255 = .ok (.iastore, 1) := by decide +kernel
theorem dX10_init_1256 : decode cX10_init 1256 = .ok (.dup, 1) := by decide +kernel
theorem dX10_init_1257 : decode cX10_init 1257 = .ok (.bipush 91, 2) := by decide +kernel
theorem dX10_init_1259 : decode cX10_init 1259 = .ok (.bipush 32, 2) := by decide +kernel
theorem dX10_init_1261 : decode cX10_init 1261 = .ok (.iastore, 1) := by decide +kernel
theorem dX10_init_1262 : decode cX10_init 1262 = .ok (.dup, 1) := by decide +kernel
theorem dX10_init_1263 : decode cX10_init 1263 = .ok (.bipush 92, 2) := by decide +kernel
theorem dX10_init_1265 : decode cX10_init 1265 = .ok (.bipush 32, 2) := by decide +kernel
theorem dX10_init_1267 : decode cX10_init 1267 = .ok (.iastore, 1) := by decide +kernel
theorem dX10_init_1268 : decode cX10_init 1268 = .ok (.dup, 1) := by decide +kernel
theorem dX10_init_1269 : decode cX10_init 1269 = .ok (.bipush 93, 2) := by decide +kernel
theorem dX10_init_1271 : decode cX10_init 1271 = .ok (.bipush 32, 2) := by decide +kernel
theorem dX10_init_1273 : decode cX10_init 1273 = .ok (.iastore, 1) := by decide +kernel
theorem dX10_init_1274 : decode cX10_init 1274 = .ok (.dup, 1) := by decide +kernel
theorem dX10_init_1275 : decode cX10_init 1275 = .ok (.bipush 94, 2) := by decide +kernel
theorem dX10_init_1277 : decode cX10_init 1277 = .ok (.bipush 32, 2) := by decide +kernel
theorem dX10_init_1279 : decode cX10_init 1279 = .ok (.iastore, 1) := by decide +kernel
theorem dX10_init_1280 : decode cX10_init 1280 = .ok (.dup, 1) := by decide +kernel
theorem dX10_init_1281 : decode cX10_init 1281 = .ok (.bipush 95, 2) := by decide +kernel
theorem dX10_init_1283 : decode cX10_init 1283 = .ok (.bipush 32, 2) := by decide +kernel
theorem dX10_init_1285 : decode cX10_init 1285 = .ok (.iastore, 1) := by decide +kernel
theorem dX10_init_1286 : decode cX10_init 1286 = .ok (.putfield 88, 3) := by decide +kernel
theorem dX10_init_1289 : decode cX10_init 1289 = .ok (.aload_n 0, 1) := by decide +kernel
theorem dX10_init_1290 : decode cX10_init 1290 = .ok (.sipush 200, 3) := by decide +kernel
theorem dX10_init_1293 : decode cX10_init 1293 = .ok (.newarray .int, 2) := by decide +kernel
theorem dX10_init_1295 : decode cX10_init 1295 = .ok (.putfield 91, 3) := by decide +kernel
theorem dX10_init_1298 : decode cX10_init 1298 = .ok (.aload_n 0, 1) := by decide +kernel
theorem dX10_init_1299 : decode cX10_init 1299 = .ok (.sipush 200, 3) := by decide +kernel
theorem dX10_init_1302 : decode cX10_init 1302 = .ok (.newarray .int, 2) := by decide +kernel
theorem dX10_init_1304 : decode cX10_init 1304 = .ok (.putfield 94, 3) := by decide +kernel
theorem dX10_init_1307 : decode cX10_init 1307 = .ok (.aload_n 0, 1) := by decide +kernel
theorem dX10_init_1308 : decode cX10_init 1308 = .ok (.bipush 6, 2) := by decide +kernel
theorem dX10_init_1310 : decode cX10_init 1310 = .ok (.newarray .int, 2) := by decide +kernel
theorem dX10_init_1312 : decode cX10_init 1312 = .ok (.putfield 97, 3) := by decide +kernel
theorem dX10_init_1315 : decode cX10_init 1315 = .ok (.aload_n 0, 1) := by decide +kernel
theorem dX10_init_1316 : decode cX10_init 1316 = .ok (.bipush 12, 2) := by decide +kernel
theorem dX10_init_1318 : decode cX10_init 1318 = .ok (.newarray .int, 2) := by decide +kernel
theorem dX10_init_1320 : decode cX10_init 1320 = .ok (.putfield 100, 3) := by decide +kernel
theorem dX10_init_1323 : decode cX10_init 1323 = .ok (.aload_n 0, 1) := by decide +kernel
theorem dX10_init_1324 : decode cX10_init 1324 = .ok (.bipush 6, 2) := by decide +kernel
theorem dX10_init_1326 : decode cX10_init 1326 = .ok (.newarray .int, 2) := by decide +kernel
theorem dX10_init_1328 : decode cX10_init 1328 = .ok (.putfield 103, 3) := by decide +kernel
theorem dX10_init_1331 : decode cX10_init 1331 = .ok (.aload_n 0, 1) := by decide +kernel
theorem dX10_init_1332 : decode cX10_init 1332 = .ok (.bipush 6, 2) := by decide +kernel
theorem dX10_init_1334 : decode cX10_init 1334 = .ok (.newarray .int, 2) := by decide +kernel
theorem dX10_init_1336 : decode cX10_init 1336 = .ok (.putfield 106, 3) := by decide +kernel
theorem dX10_init_1339 : decode cX10_init 1339 = .ok (.aload_n 0, 1) := by decide +kernel
theorem dX10_init_1340 : decode cX10_init 1340 = .ok (.bipush 6, 2) := by decide +kernel
theorem dX10_init_1342 : decode cX10_init 1342 = .ok (.newarray .int, 2) := by decide +kernel
theorem dX10_init_1344 : decode cX10_init 1344 = .ok (.putfield 109, 3) := by decide +kernel
theorem dX10_init_1347 : decode cX10_init 1347 = .ok (.aload_n 0, 1) := by decide +kernel
theorem dX10_init_1348 : decode cX10_init 1348 = .ok (.bipush 72, 2) := by decide +kernel
theorem dX10_init_1350 : decode cX10_init 1350 = .ok (.newarray .int, 2) := by decide +kernel
theorem dX10_init_1352 : decode cX10_init 1352 = .ok (.putfield 112, 3) := by decide +kernel
theorem dX10_init_1355 : decode cX10_init 1355 = .ok (.aload_n 0, 1) := by decide +kernel
theorem dX10_init_1356 : decode cX10_init 1356 = .ok (.sipush 180, 3) := by decide +kernel
theorem dX10_init_1359 : decode cX10_init 1359 = .ok (.newarray .int, 2) := by decide +kernel
theorem dX10_init_1361 : decode cX10_init 1361 = .ok (.putfield 115, 3) := by decide +kernel
theorem dX10_init_1364 : decode cX10_init 1364 = .ok (.aload_n 0, 1) := by decide +kernel
theorem dX10_init_1365 : decode cX10_init 1365 = .ok (.sipush 180, 3) := by decide +kernel
theorem dX10_init_1368 : decode cX10_init 1368 = .ok (.newarray .int, 2) := by decide +kernel
theorem dX10_init_1370 : decode cX10_init 1370 = .ok (.putfield 118, 3) := by decide +kernel
theorem dX10_init_1373 : decode cX10_init 1373 = .ok (.aload_n 0, 1) := by decide +kernel
theorem dX10_init_1374 : decode cX10_init 1374 = .ok (.sipush 180, 3) := by decide +kernel
theorem dX10_init_1377 : decode cX10_init 1377 = .ok (.newarray .int, 2) := by decide +kernel
theorem dX10_init_1379 : decode cX10_init 1379 = .ok (.putfield 121, 3) := by decide +kernel
theorem dX10_init_1382 : decode cX10_init 1382 = .ok (.iconst 0, 1) := by decide +kernel
theorem dX10_init_1383 : decode cX10_init 1383 = .ok (.istore_n 1, 1) := by decide +kernel
theorem dX10_init_1384 : decode cX10_init 1384 = .ok (.iload_n 1, 1) := by decide +kernel
theorem dX10_init_1385 : decode cX10_init 1385 = .ok (.bipush 70, 2) := by decide +kernel
theorem dX10_init_1387 : decode cX10_init 1387 = .ok (.if_icmp .ge 21, 3) := by decide +kernel
theorem dX10_init_1390 : decode cX10_init 1390 = .ok (.aload_n 0, 1) := by decide +kernel
theorem dX10_init_1391 : decode cX10_init 1391 = .ok (.getfield 55, 3) := by decide +kernel
theorem dX10_init_1394 : decode cX10_init 1394 = .ok (.iload_n 1, 1) := by decide +kernel
theorem dX10_init_1395 : decode cX10_init 1395 = .ok (.aload_n 0, 1) := by decide +kernel
theorem dX10_init_1396 : decode cX10_init 1396 = .ok (.getfield 85, 3) := by decide +kernel
theorem dX10_init_1399 : decode cX10_init 1399 = .ok (.iload_n 1, 1) := by decide +kernel
theorem dX10_init_1400 : decode cX10_init 1400 = .ok (.iaload, 1) := by decide +kernel
theorem dX10_init_1401 : decode cX10_init 1401 = .ok (.iastore, 1) := by decide +kernel
theorem dX10_init_1402 : decode cX10_init 1402 = .ok (.iinc 1 1, 3) := by decide +kernel
theorem dX10_init_1405 : decode cX10_init 1405 = .ok (.goto (-21), 3) := by decide +kernel
theorem dX10_init_1408 : decode cX10_init 1408 = .ok (.aload_n 0, 1) := by decide +kernel
theorem dX10_init_1409 : decode cX10_init 1409 = .ok (.bipush 70, 2) := by decide +kernel
theorem dX10_init_1411 : decode cX10_init 1411 = .ok (.putfield 124, 3) := by decide +kernel
theorem dX10_init_1414 : decode cX10_init 1414 = .ok (.aload_n 0, 1) := by decide +kernel
theorem dX10_init_1415 : decode cX10_init 1415 = .ok (.invokevirtual 128, 3) := by decide +kernel
theorem dX10_init_1418 : decode cX10_init 1418 = .ok (.pop, 1) := by decide +kernel
theorem dX10_init_1419 : decode cX10_init 1419 = .ok (.iconst 0, 1) := by decide +kernel
theorem dX10_init_1420 : decode cX10_init 1420 = .ok (.istore_n 1, 1) := by decide +kernel
theorem dX10_init_1421 : decode cX10_init 1421 = .ok (.iload_n 1, 1) := by decide +kernel
theorem dX10_init_1422 : decode cX10_init 1422 = .ok (.bipush 100, 2) := by decide +kernel
theorem dX10_init_1424 : decode cX10_init 1424 = .ok (.if_icmp .ge 16, 3) := by decide +kernel
theorem dX10_init_1427 : decode cX10_init 1427 = .ok (.aload_n 0, 1) := by decide +kernel
theorem dX10_init_1428 : decode cX10_init 1428 = .ok (.getfield 7, 3) := by decide +kernel
theorem dX10_init_1431 : decode cX10_init 1431 = .ok (.iload_n 1, 1) := by decide +kernel
theorem dX10_init_1432 : decode cX10_init 1432 = .ok (.iconst 5, 1) := by decide +kernel
theorem dX10_init_1433 : decode cX10_init 1433 = .ok (.iastore, 1) := by decide +kernel
theorem dX10_init_1434 : decode cX10_init 1434 = .ok (.iinc 1 1, 3) := by decide +kernel
theorem dX10_init_1437 : decode cX10_init 1437 = .ok (.goto (-16), 3) := by decide +kernel
theorem dX10_init_1440 : decode cX10_init 1440 = .ok (.iconst 0, 1) := by decide +kernel
theorem dX10_init_1441 : decode cX10_init 1441 = .ok (.istore_n 1, 1) := by decide +kernel
theorem dX10_init_1442 : decode cX10_init 1442 = .ok (.iload_n 1, 1) := by decide +kernel
theorem dX10_init_1443 : decode cX10_init 1443 = .ok (.bipush 12, 2) := by decide +kernel
theorem dX10_init_1445 : decode cX10_init 1445 = .ok (.if_icmp .ge 17, 3) := by decide +kernel
theorem dX10_init_1448 : decode cX10_init 1448 = .ok (.aload_n 0, 1) := by decide +kernel
theorem dX10_init_1449 : decode cX10_init 1449 = .ok (.getfield 19, 3) := by decide +kernel
theorem dX10_init_1452 : decode cX10_init 1452 = .ok (.iload_n 1, 1) := by decide +kernel
theorem dX10_init_1453 : decode cX10_init 1453 = .ok (.bipush 20, 2) := by decide +kernel
theorem dX10_init_1455 : decode cX10_init 1455 = .ok (.iastore, 1) := by decide +kernel
theorem dX10_init_1456 : decode cX10_init 1456 = .ok (.iinc 1 1, 3) := by decide +kernel
theorem dX10_init_1459 : decode cX10_init 1459 = .ok (.goto (-17), 3) := by decide +kernel
theorem dX10_init_1462 : decode cX10_init 1462 = .ok (.return_, 1) := by decide +kernel
theorem dX10_in_0 : decode cX10_in 0 = .ok (.iload_n 0, 1) := by decide +kernel
theorem dX10_in_1 : decode cX10_in 1 = .ok (.iload_n 1, 1) := by decide +kernel
theorem dX10_in_2 : decode cX10_in 2 = .ok (.if_icmp .lt 12, 3) := by decide +kernel
theorem dX10_in_5 : decode cX10_in 5 = .ok (.iload_n 0, 1) := by decide +kernel
theorem dX10_in_6 : decode cX10_in 6 = .ok (.iload_n 2, 1) := by decide +kernel
theorem dX10_in_7 : decode cX10_in 7 = .ok (.if_icmp .gt 7, 3) := by decide +kernel
theorem dX10_in_10 : decode cX10_in 10 = .ok (.iconst 1, 1) := by decide +kernel
theorem dX10_in_11 : decode cX10_in 11 = .ok (.goto 4, 3) := by decide +kernel
theorem dX10_in_14 : decode cX10_in 14 = .ok (.iconst 0, 1) := by decide +kernel
theorem dX10_in_15 : decode cX10_in 15 = .ok (.ireturn, 1) := by decide +kernel
theorem dX10_within_0 : decode cX10_within 0 = .ok (.iload_n 0, 1) := by decide +kernel
theorem dX10_within_1 : decode cX10_within 1 = .ok (.iload_n 1, 1) := by decide +kernel
theorem dX10_within_2 : decode cX10_within 2 = .ok (.if_icmp .ge 7, 3) := by decide +kernel
theorem dX10_within_5 : decode cX10_within 5 = .ok (.iload_n 1, 1) := by decide +kernel
theorem dX10_within_6 : decode cX10_within 6 = .ok (.goto 13, 3) := by decide +kernel
theorem dX10_within_9 : decode cX10_within 9 = .ok (.iload_n 0, 1) := by decide +kernel
theorem dX10_within_10 : decode cX10_within 10 = .ok (.iload_n 2, 1) := by decide +kernel
theorem dX10_within_11 : decode cX10_within 11 = .ok (.if_icmp .le 7, 3) := by decide +kernel
theorem dX10_within_14 : decode cX10_within 14 = .ok (.iload_n 2, 1) := by decide +kernel
theorem dX10_within_15 : decode cX10_within 15 = .ok (.goto 4, 3) := by decide +kernel
theorem dX10_within_18 : decode cX10_within 18 = .ok (.iload_n 0, 1) := by decide +kernel
theorem dX10_within_19 : decode cX10_within 19 = .ok (.ireturn, 1) := by decide +kernel
theorem dX10_size_0 : decode cX10_size 0 = .ok (.iload_n 0, 1) := by decide +kernel
theorem dX10_size_1 : decode cX10_size 1 = .ok (.ifCond .ge 8, 3) := by decide +kernel
theorem dX10_size_4 : decode cX10_size 4 = .ok (.iload_n 0, 1) := by decide +kernel
theorem dX10_size_5 : decode cX10_size 5 = .ok (.ineg, 1) := by decide +kernel
theorem dX10_size_6 : decode cX10_size 6 = .ok (.goto 4, 3) := by decide +kernel
theorem dX10_size_9 : decode cX10_size 9 = .ok (.iload_n 0, 1) := by decide +kernel
theorem dX10_size_10 : decode cX10_size 10 = .ok (.ireturn, 1) := by decide +kernel
theorem dX10_isCell_0 : decode cX10_isCell 0 = .ok (.iload_n 0, 1) := by decide +kernel
theorem dX10_isCell_1 : decode cX10_isCell 1 = .ok (.iconst 0, 1) := by decide +kernel
theorem dX10_isCell_2 : decode cX10_isCell 2 = .ok (.bipush 99, 2) := by decide +kernel
theorem dX10_isCell_4 : decode cX10_isCell 4 = .ok (.invokestatic 132, 3) := by decide +kernel
theorem dX10_isCell_7 : decode cX10_isCell 7 = .ok (.ireturn, 1) := by decide +kernel
theorem dX10_isHour_0 : decode cX10_isHour 0 = .ok (.iload_n 0, 1) := by decide +kernel
theorem dX10_isHour_1 : decode cX10_isHour 1 = .ok (.iconst 0, 1) := by decide +kernel
theorem dX10_isHour_2 : decode cX10_isHour 2 = .ok (.bipush 11, 2) := by decide +kernel
theorem dX10_isHour_4 : decode cX10_isHour 4 = .ok (.invokestatic 132, 3) := by decide +kernel
theorem dX10_isHour_7 : decode cX10_isHour 7 = .ok (.ireturn, 1) := by decide +kernel
theorem dX10_isBoat_0 : decode cX10_isBoat 0 = .ok (.iload_n 1, 1) := by decide +kernel
theorem dX10_isBoat_1 : decode cX10_isBoat 1 = .ok (.iconst 0, 1) := by decide +kernel
theorem dX10_isBoat_2 : decode cX10_isBoat 2 = .ok (.aload_n 0, 1) := by decide +kernel
theorem dX10_isBoat_3 : decode cX10_isBoat 3 = .ok (.getfield 136, 3) := by decide +kernel
theorem dX10_isBoat_6 : decode cX10_isBoat 6 = .ok (.iconst 1, 1) := by decide +kernel
theorem dX10_isBoat_7 : decode cX10_isBoat 7 = .ok (.isub, 1) := by decide +kernel
theorem dX10_isBoat_8 : decode cX10_isBoat 8 = .ok (.invokestatic 132, 3) := by decide +kernel
theorem dX10_isBoat_11 : decode cX10_isBoat 11 = .ok (.ireturn, 1) := by decide +kernel
theorem dX10_isNight_0 : decode cX10_isNight 0 = .ok (.iload_n 1, 1) := by decide +kernel
theorem dX10_isNight_1 : decode cX10_isNight 1 = .ok (.iconst 0, 1) := by decide +kernel
theorem dX10_isNight_2 : decode cX10_isNight 2 = .ok (.bipush 12, 2) := by decide +kernel
theorem dX10_isNight_4 : decode cX10_isNight 4 = .ok (.aload_n 0, 1) := by decide +kernel
theorem dX10_isNight_5 : decode cX10_isNight 5 = .ok (.getfield 139, 3) := by decide +kernel
theorem dX10_isNight_8 : decode cX10_isNight 8 = .ok (.isub, 1) := by decide +kernel
theorem dX10_isNight_9 : decode cX10_isNight 9 = .ok (.invokestatic 132, 3) := by decide +kernel
theorem dX10_isNight_12 : decode cX10_isNight 12 = .ok (.ireturn, 1) := by decide +kernel
theorem dX10_isSounding_0 : decode cX10_isSounding 0 = .ok (.iload_n 0, 1) := by decide +kernel
theorem dX10_isSounding_1 : decode cX10_isSounding 1 = .ok (.iconst 0, 1) := by decide +kernel
theorem dX10_isSounding_2 : decode cX10_isSounding 2 = .ok (.iconst 1, 1) := by decide +kernel
theorem dX10_isSounding_3 : decode cX10_isSounding 3 = .ok (.invokestatic 132, 3) := by decide +kernel
theorem dX10_isSounding_6 : decode cX10_isSounding 6 = .ok (.ifCond .eq 25, 3) := by decide +kernel
theorem dX10_isSounding_9 : decode cX10_isSounding 9 = .ok (.iload_n 1, 1) := by decide +kernel
theorem dX10_isSounding_10 : decode cX10_isSounding 10 = .ok (.iconst 0, 1) := by decide +kernel
theorem dX10_isSounding_11 : decode cX10_isSounding 11 = .ok (.iload_n 0, 1) := by decide +kernel
theorem dX10_isSounding_12 : decode cX10_isSounding 12 = .ok (.ifCond .ne 8, 3) := by decide +kernel
theorem dX10_isSounding_15 : decode cX10_isSounding 15 = .ok (.bipush 30, 2) := by decide +kernel
theorem dX10_isSounding_17 : decode cX10_isSounding 17 = .ok (.goto 4, 3) := by decide +kernel
theorem dX10_isSounding_20 : decode cX10_isSounding 20 = .ok (.iconst 3, 1) := by decide +kernel
theorem dX10_isSounding_21 : decode cX10_isSounding 21 = .ok (.invokestatic 132, 3) := by decide +kernel
theorem dX10_isSounding_24 : decode cX10_isSounding 24 = .ok (.ifCond .eq 7, 3) := by decide +kernel
theorem dX10_isSounding_27 : decode cX10_isSounding 27 = .ok (.iconst 1, 1) := by decide +kernel
theorem dX10_isSounding_28 : decode cX10_isSounding 28 = .ok (.goto 4, 3) := by decide +kernel
theorem dX10_isSounding_31 : decode cX10_isSounding 31 = .ok (.iconst 0, 1) := by decide +kernel
theorem dX10_isSounding_32 : decode cX10_isSounding 32 = .ok (.ireturn, 1) := by decide +kernel
theorem dX10_sound_0 : decode cX10_sound 0 = .ok (.iload_n 1, 1) := by decide +kernel
theorem dX10_sound_1 : decode cX10_sound 1 = .ok (.invokestatic 142, 3) := by decide +kernel
theorem dX10_sound_4 : decode cX10_sound 4 = .ok (.ifCond .ne 6, 3) := by decide +kernel
theorem dX10_sound_7 : decode cX10_sound 7 = .ok (.bipush (-5), 2) := by decide +kernel
theorem dX10_sound_9 : decode cX10_sound 9 = .ok (.ireturn, 1) := by decide +kernel
theorem dX10_sound_10 : decode cX10_sound 10 = .ok (.iload_n 2, 1) := by decide +kernel
theorem dX10_sound_11 : decode cX10_sound 11 = .ok (.iload_n 3, 1) := by decide +kernel
theorem dX10_sound_12 : decode cX10_sound 12 = .ok (.invokestatic 146, 3) := by decide +kernel
theorem dX10_sound_15 : decode cX10_sound 15 = .ok (.ifCond .ne 6, 3) := by decide +kernel
theorem dX10_sound_18 : decode cX10_sound 18 = .ok (.bipush (-7), 2) := by decide +kernel
theorem dX10_sound_20 : decode cX10_sound 20 = .ok (.ireturn, 1) := by decide +kernel
theorem dX10_sound_21 : decode cX10_sound 21 = .ok (.iload_n 2, 1) := by decide +kernel
theorem dX10_sound_22 : decode cX10_sound 22 = .ok (.ifCond .ne 12, 3) := by decide +kernel
theorem dX10_sound_25 : decode cX10_sound 25 = .ok (.aload_n 0, 1) := by decide +kernel
theorem dX10_sound_26 : decode cX10_sound 26 = .ok (.getfield 7, 3) := by decide +kernel
theorem dX10_sound_29 : decode cX10_sound 29 = .ok (.iload_n 1, 1) := by decide +kernel
theorem dX10_sound_30 : decode cX10_sound 30 = .ok (.iaload, 1) := by decide +kernel
theorem dX10_sound_31 : decode cX10_sound 31 = .ok (.goto 9, 3) := by decide +kernel
theorem dX10_sound_34 : decode cX10_sound 34 = .ok (.aload_n 0, 1) := by decide +kernel
theorem dX10_sound_35 : decode cX10_sound 35 = .ok (.getfield 13, 3) := by decide +kernel
theorem dX10_sound_38 : decode cX10_sound 38 = .ok (.iload_n 1, 1) := by decide +kernel
theorem dX10_sound_39 : decode cX10_sound 39 = .ok (.iaload, 1) := by decide +kernel
theorem dX10_sound_40 : decode cX10_sound 40 = .ok (.istore 4, 2) := by decide +kernel
theorem dX10_sound_42 : decode cX10_sound 42 = .ok (.aload_n 0, 1) := by decide +kernel
theorem dX10_sound_43 : decode cX10_sound 43 = .ok (.iload_n 1, 1) := by decide +kernel
theorem dX10_sound_44 : decode cX10_sound 44 = .ok (.iload_n 2, 1) := by decide +kernel
theorem dX10_sound_45 : decode cX10_sound 45 = .ok (.iload_n 3, 1) := by decide +kernel
theorem dX10_sound_46 : decode cX10_sound 46 = .ok (.invokevirtual 150, 3) := by decide +kernel
theorem dX10_sound_49 : decode cX10_sound 49 = .ok (.iload 4, 2) := by decide +kernel
theorem dX10_sound_51 : decode cX10_sound 51 = .ok (.ireturn, 1) := by decide +kernel
theorem dX10_sounds_0 : decode cX10_sounds 0 = .ok (.aload_n 0, 1) := by decide +kernel
theorem dX10_sounds_1 : decode cX10_sounds 1 = .ok (.getfield 7, 3) := by decide +kernel
theorem dX10_sounds_4 : decode cX10_sounds 4 = .ok (.iload_n 1, 1) := by decide +kernel
theorem dX10_sounds_5 : decode cX10_sounds 5 = .ok (.iload_n 2, 1) := by decide +kernel
theorem dX10_sounds_6 : decode cX10_sounds 6 = .ok (.ifCond .ne 7, 3) := by decide +kernel
theorem dX10_sounds_9 : decode cX10_sounds 9 = .ok (.iload_n 3, 1) := by decide +kernel
theorem dX10_sounds_10 : decode cX10_sounds 10 = .ok (.goto 9, 3) := by decide +kernel
theorem dX10_sounds_13 : decode cX10_sounds 13 = .ok (.aload_n 0, 1) := by decide +kernel
theorem dX10_sounds_14 : decode cX10_sounds 14 = .ok (.getfield 7, 3) := by decide +kernel
theorem dX10_sounds_17 : decode cX10_sounds 17 = .ok (.iload_n 1, 1) := by decide +kernel
theorem dX10_sounds_18 : decode cX10_sounds 18 = .ok (.iaload, 1) := by decide +kernel
theorem dX10_sounds_19 : decode cX10_sounds 19 = .ok (.iastore, 1) := by decide +kernel
theorem dX10_sounds_20 : decode cX10_sounds 20 = .ok (.aload_n 0, 1) := by decide +kernel
theorem dX10_sounds_21 : decode cX10_sounds 21 = .ok (.getfield 13, 3) := by decide +kernel
theorem dX10_sounds_24 : decode cX10_sounds 24 = .ok (.iload_n 1, 1) := by decide +kernel
theorem dX10_sounds_25 : decode cX10_sounds 25 = .ok (.iload_n 2, 1) := by decide +kernel
theorem dX10_sounds_26 : decode cX10_sounds 26 = .ok (.iconst 1, 1) := by decide +kernel
theorem dX10_sounds_27 : decode cX10_sounds 27 = .ok (.if_icmp .ne 7, 3) := by decide +kernel
theorem dX10_sounds_30 : decode cX10_sounds 30 = .ok (.iload_n 3, 1) := by decide +kernel
theorem dX10_sounds_31 : decode cX10_sounds 31 = .ok (.goto 9, 3) := by decide +kernel
theorem dX10_sounds_34 : decode cX10_sounds 34 = .ok (.aload_n 0, 1) := by decide +kernel
theorem dX10_sounds_35 : decode cX10_sounds 35 = .ok (.getfield 13, 3) := by decide +kernel
theorem dX10_sounds_38 : decode cX10_sounds 38 = .ok (.iload_n 1, 1) := by decide +kernel
theorem dX10_sounds_39 : decode cX10_sounds 39 = .ok (.iaload, 1) := by decide +kernel
theorem dX10_sounds_40 : decode cX10_sounds 40 = .ok (.iastore, 1) := by decide +kernel
theorem dX10_sounds_41 : decode cX10_sounds 41 = .ok (.return_, 1) := by decide +kernel
theorem dX10_chart_0 : decode cX10_chart 0 = .ok (.iload_n 1, 1) := by decide +kernel
theorem dX10_chart_1 : decode cX10_chart 1 = .ok (.invokestatic 142, 3) := by decide +kernel
theorem dX10_chart_4 : decode cX10_chart 4 = .ok (.ifCond .eq 33, 3) := by decide +kernel
theorem dX10_chart_7 : decode cX10_chart 7 = .ok (.iload_n 2, 1) := by decide +kernel
theorem dX10_chart_8 : decode cX10_chart 8 = .ok (.ifCond .lt 29, 3) := by decide +kernel
theorem dX10_chart_11 : decode cX10_chart 11 = .ok (.iload_n 2, 1) := by decide +kernel
theorem dX10_chart_12 : decode cX10_chart 12 = .ok (.bipush 10, 2) := by decide +kernel
theorem dX10_chart_14 : decode cX10_chart 14 = .ok (.idiv, 1) := by decide +kernel
theorem dX10_chart_15 : decode cX10_chart 15 = .ok (.iconst 1, 1) := by decide +kernel
theorem dX10_chart_16 : decode cX10_chart 16 = .ok (.bipush 9, 2) := by decide +kernel
theorem dX10_chart_18 : decode cX10_chart 18 = .ok (.invokestatic 132, 3) := by decide +kernel
theorem dX10_chart_21 : decode cX10_chart 21 = .ok (.ifCond .eq 16, 3) := by decide +kernel
theorem dX10_chart_24 : decode cX10_chart 24 = .ok (.iload_n 2, 1) := by decide +kernel
theorem dX10_chart_25 : decode cX10_chart 25 = .ok (.bipush 10, 2) := by decide +kernel
theorem dX10_chart_27 : decode cX10_chart 27 = .ok (.irem, 1) := by decide +kernel
theorem dX10_chart_28 : decode cX10_chart 28 = .ok (.iconst 1, 1) := by decide +kernel
theorem dX10_chart_29 : decode cX10_chart 29 = .ok (.bipush 9, 2) := by decide +kernel
theorem dX10_chart_31 : decode cX10_chart 31 = .ok (.invokestatic 132, 3) := by decide +kernel
theorem dX10_chart_34 : decode cX10_chart 34 = .ok (.ifCond .ne 6, 3) := by decide +kernel
theorem dX10_chart_37 : decode cX10_chart 37 = .ok (.bipush (-2), 2) := by decide +kernel
theorem dX10_chart_39 : decode cX10_chart 39 = .ok (.ireturn, 1) := by decide +kernel
theorem dX10_chart_40 : decode cX10_chart 40 = .ok (.iload_n 3, 1) := by decide +kernel
theorem dX10_chart_41 : decode cX10_chart 41 = .ok (.iload 4, 2) := by decide +kernel
theorem dX10_chart_43 : decode cX10_chart 43 = .ok (.invokestatic 146, 3) := by decide +kernel
theorem dX10_chart_46 : decode cX10_chart 46 = .ok (.ifCond .ne 6, 3) := by decide +kernel
theorem dX10_chart_49 : decode cX10_chart 49 = .ok (.bipush (-7), 2) := by decide +kernel
theorem dX10_chart_51 : decode cX10_chart 51 = .ok (.ireturn, 1) := by decide +kernel
theorem dX10_chart_52 : decode cX10_chart 52 = .ok (.iconst 0, 1) := by decide +kernel
theorem dX10_chart_53 : decode cX10_chart 53 = .ok (.istore 5, 2) := by decide +kernel
theorem dX10_chart_55 : decode cX10_chart 55 = .ok (.iload_n 1, 1) := by decide +kernel
theorem dX10_chart_56 : decode cX10_chart 56 = .ok (.bipush 10, 2) := by decide +kernel
theorem dX10_chart_58 : decode cX10_chart 58 = .ok (.idiv, 1) := by decide +kernel
theorem dX10_chart_59 : decode cX10_chart 59 = .ok (.istore 6, 2) := by decide +kernel
theorem dX10_chart_61 : decode cX10_chart 61 = .ok (.iload 6, 2) := by decide +kernel
theorem dX10_chart_63 : decode cX10_chart 63 = .ok (.iload_n 1, 1) := by decide +kernel
theorem dX10_chart_64 : decode cX10_chart 64 = .ok (.bipush 10, 2) := by decide +kernel
theorem dX10_chart_66 : decode cX10_chart 66 = .ok (.idiv, 1) := by decide +kernel
theorem dX10_chart_67 : decode cX10_chart 67 = .ok (.iload_n 2, 1) := by decide +kernel
theorem dX10_chart_68 : decode cX10_chart 68 = .ok (.bipush 10, 2) := by decide +kernel
theorem dX10_chart_70 : decode cX10_chart 70 = .ok (.idiv, 1) := by decide +kernel
theorem dX10_chart_71 : decode cX10_chart 71 = .ok (.iadd, 1) := by decide +kernel
theorem dX10_chart_72 : decode cX10_chart 72 = .ok (.if_icmp .ge 67, 3) := by decide +kernel
theorem dX10_chart_75 : decode cX10_chart 75 = .ok (.iload 6, 2) := by decide +kernel
theorem dX10_chart_77 : decode cX10_chart 77 = .ok (.bipush 10, 2) := by decide +kernel
theorem dX10_chart_79 : decode cX10_chart 79 = .ok (.if_icmp .ge 60, 3) := by decide +kernel
theorem dX10_chart_82 : decode cX10_chart 82 = .ok (.iload_n 1, 1) := by decide +kernel
theorem dX10_chart_83 : decode cX10_chart 83 = .ok (.bipush 10, 2) := by decide +kernel
theorem dX10_chart_85 : decode cX10_chart 85 = .ok (.irem, 1) := by decide +kernel
theorem dX10_chart_86 : decode cX10_chart 86 = .ok (.istore 7, 2) := by decide +kernel
theorem dX10_chart_88 : decode cX10_chart 88 = .ok (.iload 7, 2) := by decide +kernel
theorem dX10_chart_90 : decode cX10_chart 90 = .ok (.iload_n 1, 1) := by decide +kernel
theorem dX10_chart_91 : decode cX10_chart 91 = .ok (.bipush 10, 2) := by decide +kernel
theorem dX10_chart_93 : decode cX10_chart 93 = .ok (.irem, 1) := by decide +kernel
theorem dX10_chart_94 : decode cX10_chart 94 = .ok (.iload_n 2, 1) := by decide +kernel
theorem dX10_chart_95 : decode cX10_chart 95 = .ok (.bipush 10, 2) := by decide +kernel
theorem dX10_chart_97 : decode cX10_chart 97 = .ok (.irem, 1) := by decide +kernel
theorem dX10_chart_98 : decode cX10_chart 98 = .ok (.iadd, 1) := by decide +kernel
theorem dX10_chart_99 : decode cX10_chart 99 = .ok (.if_icmp .ge 34, 3) := by decide +kernel
theorem dX10_chart_102 : decode cX10_chart 102 = .ok (.iload 7, 2) := by decide +kernel
theorem dX10_chart_104 : decode cX10_chart 104 = .ok (.bipush 10, 2) := by decide +kernel
theorem dX10_chart_106 : decode cX10_chart 106 = .ok (.if_icmp .ge 27, 3) := by decide +kernel
theorem dX10_chart_109 : decode cX10_chart 109 = .ok (.aload_n 0, 1) := by decide +kernel
theorem dX10_chart_110 : decode cX10_chart 110 = .ok (.bipush 10, 2) := by decide +kernel
theorem dX10_chart_112 : decode cX10_chart 112 = .ok (.iload 6, 2) := by decide +kernel
theorem dX10_chart_114 : decode cX10_chart 114 = .ok (.imul, 1) := by decide +kernel
theorem dX10_chart_115 : decode cX10_chart 115 = .ok (.iload 7, 2) := by decide +kernel
theorem dX10_chart_117 : decode cX10_chart 117 = .ok (.iadd, 1) := by decide +kernel
theorem dX10_chart_118 : decode cX10_chart 118 = .ok (.iload_n 3, 1) := by decide +kernel
theorem dX10_chart_119 : decode cX10_chart 119 = .ok (.iload 4, 2) := by decide +kernel
theorem dX10_chart_121 : decode cX10_chart 121 = .ok (.invokevirtual 150, 3) := by decide +kernel
theorem dX10_chart_124 : decode cX10_chart 124 = .ok (.iinc 5 1, 3) := by decide +kernel
theorem dX10_chart_127 : decode cX10_chart 127 = .ok (.iinc 7 1, 3) := by decide +kernel
theorem dX10_chart_130 : decode cX10_chart 130 = .ok (.goto (-42), 3) := by decide +kernel
theorem dX10_chart_133 : decode cX10_chart 133 = .ok (.iinc 6 1, 3) := by decide +kernel
theorem dX10_chart_136 : decode cX10_chart 136 = .ok (.goto (-75), 3) := by decide +kernel
theorem dX10_chart_139 : decode cX10_chart 139 = .ok (.iload 5, 2) := by decide +kernel
theorem dX10_chart_141 : decode cX10_chart 141 = .ok (.ireturn, 1) := by decide +kernel
theorem dX10_blow_0 : decode cX10_blow 0 = .ok (.iload_n 1, 1) := by decide +kernel
theorem dX10_blow_1 : decode cX10_blow 1 = .ok (.invokestatic 154, 3) := by decide +kernel
theorem dX10_blow_4 : decode cX10_blow 4 = .ok (.ifCond .ne 6, 3) := by decide +kernel
theorem dX10_blow_7 : decode cX10_blow 7 = .ok (.bipush (-5), 2) := by decide +kernel
theorem dX10_blow_9 : decode cX10_blow 9 = .ok (.ireturn, 1) := by decide +kernel
theorem dX10_blow_10 : decode cX10_blow 10 = .ok (.iload_n 2, 1) := by decide +kernel
theorem dX10_blow_11 : decode cX10_blow 11 = .ok (.ifCond .ne 13, 3) := by decide +kernel
theorem dX10_blow_14 : decode cX10_blow 14 = .ok (.iload_n 3, 1) := by decide +kernel
theorem dX10_blow_15 : decode cX10_blow 15 = .ok (.iconst 0, 1) := by decide +kernel
theorem dX10_blow_16 : decode cX10_blow 16 = .ok (.bipush 7, 2) := by decide +kernel
theorem dX10_blow_18 : decode cX10_blow 18 = .ok (.invokestatic 132, 3) := by decide +kernel
theorem dX10_blow_21 : decode cX10_blow 21 = .ok (.goto 38, 3) := by decide +kernel
theorem dX10_blow_24 : decode cX10_blow 24 = .ok (.iload_n 2, 1) := by decide +kernel
theorem dX10_blow_25 : decode cX10_blow 25 = .ok (.iconst 1, 1) := by decide +kernel
theorem dX10_blow_26 : decode cX10_blow 26 = .ok (.if_icmp .ne 13, 3) := by decide +kernel
theorem dX10_blow_29 : decode cX10_blow 29 = .ok (.iload_n 3, 1) := by decide +kernel
theorem dX10_blow_30 : decode cX10_blow 30 = .ok (.iconst 0, 1) := by decide +kernel
theorem dX10_blow_31 : decode cX10_blow 31 = .ok (.bipush 99, 2) := by decide +kernel
theorem dX10_blow_33 : decode cX10_blow 33 = .ok (.invokestatic 132, 3) := by decide +kernel
theorem dX10_blow_36 : decode cX10_blow 36 = .ok (.goto 23, 3) := by decide +kernel
theorem dX10_blow_39 : decode cX10_blow 39 = .ok (.iload_n 2, 1) := by decide +kernel
theorem dX10_blow_40 : decode cX10_blow 40 = .ok (.iconst 2, 1) := by decide +kernel
theorem dX10_blow_41 : decode cX10_blow 41 = .ok (.if_icmp .ne 17, 3) := by decide +kernel
theorem dX10_blow_44 : decode cX10_blow 44 = .ok (.iload_n 3, 1) := by decide +kernel
theorem dX10_blow_45 : decode cX10_blow 45 = .ok (.bipush (-3), 2) := by decide +kernel
theorem dX10_blow_47 : decode cX10_blow 47 = .ok (.iconst 3, 1) := by decide +kernel
theorem dX10_blow_48 : decode cX10_blow 48 = .ok (.invokestatic 132, 3) := by decide +kernel
theorem dX10_blow_51 : decode cX10_blow 51 = .ok (.ifCond .eq 7, 3) := by decide +kernel
theorem dX10_blow_54 : decode cX10_blow 54 = .ok (.iconst 1, 1) := by decide +kernel
theorem dX10_blow_55 : decode cX10_blow 55 = .ok (.goto 4, 3) := by decide +kernel
theorem dX10_blow_58 : decode cX10_blow 58 = .ok (.iconst 0, 1) := by decide +kernel
theorem dX10_blow_59 : decode cX10_blow 59 = .ok (.istore 4, 2) := by decide +kernel
theorem dX10_blow_61 : decode cX10_blow 61 = .ok (.iload 4, 2) := by decide +kernel
theorem dX10_blow_63 : decode cX10_blow 63 = .ok (.ifCond .ne 6, 3) := by decide +kernel
theorem dX10_blow_66 : decode cX10_blow 66 = .ok (.bipush (-7), 2) := by decide +kernel
theorem dX10_blow_68 : decode cX10_blow 68 = .ok (.ireturn, 1) := by decide +kernel
theorem dX10_blow_69 : decode cX10_blow 69 = .ok (.iload_n 2, 1) := by decide +kernel
theorem dX10_blow_70 : decode cX10_blow 70 = .ok (.ifCond .ne 12, 3) := by decide +kernel
theorem dX10_blow_73 : decode cX10_blow 73 = .ok (.aload_n 0, 1) := by decide +kernel
theorem dX10_blow_74 : decode cX10_blow 74 = .ok (.getfield 16, 3) := by decide +kernel
theorem dX10_blow_77 : decode cX10_blow 77 = .ok (.iload_n 1, 1) := by decide +kernel
theorem dX10_blow_78 : decode cX10_blow 78 = .ok (.iaload, 1) := by decide +kernel
theorem dX10_blow_79 : decode cX10_blow 79 = .ok (.goto 23, 3) := by decide +kernel
theorem dX10_blow_82 : decode cX10_blow 82 = .ok (.iload_n 2, 1) := by decide +kernel
theorem dX10_blow_83 : decode cX10_blow 83 = .ok (.iconst 1, 1) := by decide +kernel
theorem dX10_blow_84 : decode cX10_blow 84 = .ok (.if_icmp .ne 12, 3) := by decide +kernel
theorem dX10_blow_87 : decode cX10_blow 87 = .ok (.aload_n 0, 1) := by decide +kernel
theorem dX10_blow_88 : decode cX10_blow 88 = .ok (.getfield 19, 3) := by decide +kernel
theorem dX10_blow_91 : decode cX10_blow 91 = .ok (.iload_n 1, 1) := by decide +kernel
theorem dX10_blow_92 : decode cX10_blow 92 = .ok (.iaload, 1) := by decide +kernel
theorem dX10_blow_93 : decode cX10_blow 93 = .ok (.goto 9, 3) := by decide +kernel
theorem dX10_blow_96 : decode cX10_blow 96 = .ok (.aload_n 0, 1) := by decide +kernel
theorem dX10_blow_97 : decode cX10_blow 97 = .ok (.getfield 22, 3) := by decide +kernel
theorem dX10_blow_100 : decode cX10_blow 100 = .ok (.iload_n 1, 1) := by decide +kernel
theorem dX10_blow_101 : decode cX10_blow 101 = .ok (.iaload, 1) := by decide +kernel
theorem dX10_blow_102 : decode cX10_blow 102 = .ok (.istore 5, 2) := by decide +kernel
theorem dX10_blow_104 : decode cX10_blow 104 = .ok (.aload_n 0, 1) := by decide +kernel
theorem dX10_blow_105 : decode cX10_blow 105 = .ok (.getfield 16, 3) := by decide +kernel
theorem dX10_blow_108 : decode cX10_blow 108 = .ok (.iload_n 1, 1) := by decide +kernel
theorem dX10_blow_109 : decode cX10_blow 109 = .ok (.iload_n 2, 1) := by decide +kernel
theorem dX10_blow_110 : decode cX10_blow 110 = .ok (.ifCond .ne 7, 3) := by decide +kernel
theorem dX10_blow_113 : decode cX10_blow 113 = .ok (.iload_n 3, 1) := by decide +kernel
theorem dX10_blow_114 : decode cX10_blow 114 = .ok (.goto 9, 3) := by decide +kernel
theorem dX10_blow_117 : decode cX10_blow 117 = .ok (.aload_n 0, 1) := by decide +kernel
theorem dX10_blow_118 : decode cX10_blow 118 = .ok (.getfield 16, 3) := by decide +kernel
theorem dX10_blow_121 : decode cX10_blow 121 = .ok (.iload_n 1, 1) := by decide +kernel
theorem dX10_blow_122 : decode cX10_blow 122 = .ok (.iaload, 1) := by decide +kernel
theorem dX10_blow_123 : decode cX10_blow 123 = .ok (.iastore, 1) := by decide +kernel
theorem dX10_blow_124 : decode cX10_blow 124 = .ok (.aload_n 0, 1) := by decide +kernel
theorem dX10_blow_125 : decode cX10_blow 125 = .ok (.getfield 19, 3) := by decide +kernel
theorem dX10_blow_128 : decode cX10_blow 128 = .ok (.iload_n 1, 1) := by decide +kernel
theorem dX10_blow_129 : decode cX10_blow 129 = .ok (.iload_n 2, 1) := by decide +kernel
theorem dX10_blow_130 : decode cX10_blow 130 = .ok (.iconst 1, 1) := by decide +kernel
theorem dX10_blow_131 : decode cX10_blow 131 = .ok (.if_icmp .ne 7, 3) := by decide +kernel
theorem dX10_blow_134 : decode cX10_blow 134 = .ok (.iload_n 3, 1) := by decide +kernel
theorem dX10_blow_135 : decode cX10_blow 135 = .ok (.goto 9, 3) := by decide +kernel
theorem dX10_blow_138 : decode cX10_blow 138 = .ok (.aload_n 0, 1) := by decide +kernel
theorem dX10_blow_139 : decode cX10_blow 139 = .ok (.getfield 19, 3) := by decide +kernel
theorem dX10_blow_142 : decode cX10_blow 142 = .ok (.iload_n 1, 1) := by decide +kernel
theorem dX10_blow_143 : decode cX10_blow 143 = .ok (.iaload, 1) := by decide +kernel
theorem dX10_blow_144 : decode cX10_blow 144 = .ok (.iastore, 1) := by decide +kernel
theorem dX10_blow_145 : decode cX10_blow 145 = .ok (.aload_n 0, 1) := by decide +kernel
theorem dX10_blow_146 : decode cX10_blow 146 = .ok (.getfield 22, 3) := by decide +kernel
theorem dX10_blow_149 : decode cX10_blow 149 = .ok (.iload_n 1, 1) := by decide +kernel
theorem dX10_blow_150 : decode cX10_blow 150 = .ok (.iload_n 2, 1) := by decide +kernel
theorem dX10_blow_151 : decode cX10_blow 151 = .ok (.iconst 2, 1) := by decide +kernel
theorem dX10_blow_152 : decode cX10_blow 152 = .ok (.if_icmp .ne 7, 3) := by decide +kernel
theorem dX10_blow_155 : decode cX10_blow 155 = .ok (.iload_n 3, 1) := by decide +kernel
theorem dX10_blow_156 : decode cX10_blow 156 = .ok (.goto 9, 3) := by decide +kernel
theorem dX10_blow_159 : decode cX10_blow 159 = .ok (.aload_n 0, 1) := by decide +kernel
theorem dX10_blow_160 : decode cX10_blow 160 = .ok (.getfield 22, 3) := by decide +kernel
theorem dX10_blow_163 : decode cX10_blow 163 = .ok (.iload_n 1, 1) := by decide +kernel
theorem dX10_blow_164 : decode cX10_blow 164 = .ok (.iaload, 1) := by decide +kernel
theorem dX10_blow_165 : decode cX10_blow 165 = .ok (.iastore, 1) := by decide +kernel
theorem dX10_blow_166 : decode cX10_blow 166 = .ok (.iload 5, 2) := by decide +kernel
theorem dX10_blow_168 : decode cX10_blow 168 = .ok (.ireturn, 1) := by decide +kernel
theorem dX10_told_0 : decode cX10_told 0 = .ok (.iload_n 2, 1) := by decide +kernel
theorem dX10_told_1 : decode cX10_told 1 = .ok (.iconst 0, 1) := by decide +kernel
theorem dX10_told_2 : decode cX10_told 2 = .ok (.iconst 4, 1) := by decide +kernel
theorem dX10_told_3 : decode cX10_told 3 = .ok (.invokestatic 132, 3) := by decide +kernel
theorem dX10_told_6 : decode cX10_told 6 = .ok (.ifCond .ne 6, 3) := by decide +kernel
theorem dX10_told_9 : decode cX10_told 9 = .ok (.bipush (-7), 2) := by decide +kernel
theorem dX10_told_11 : decode cX10_told 11 = .ok (.ireturn, 1) := by decide +kernel
theorem dX10_told_12 : decode cX10_told 12 = .ok (.iload_n 2, 1) := by decide +kernel
theorem dX10_told_13 : decode cX10_told 13 = .ok (.iconst 2, 1) := by decide +kernel
theorem dX10_told_14 : decode cX10_told 14 = .ok (.if_icmp .ge 13, 3) := by decide +kernel
theorem dX10_told_17 : decode cX10_told 17 = .ok (.iload_n 1, 1) := by decide +kernel
theorem dX10_told_18 : decode cX10_told 18 = .ok (.invokestatic 142, 3) := by decide +kernel
theorem dX10_told_21 : decode cX10_told 21 = .ok (.ifCond .ne 16, 3) := by decide +kernel
theorem dX10_told_24 : decode cX10_told 24 = .ok (.goto 10, 3) := by decide +kernel
theorem dX10_told_27 : decode cX10_told 27 = .ok (.iload_n 1, 1) := by decide +kernel
theorem dX10_told_28 : decode cX10_told 28 = .ok (.invokestatic 154, 3) := by decide +kernel
theorem dX10_told_31 : decode cX10_told 31 = .ok (.ifCond .ne 6, 3) := by decide +kernel
theorem dX10_told_34 : decode cX10_told 34 = .ok (.bipush (-5), 2) := by decide +kernel
theorem dX10_told_36 : decode cX10_told 36 = .ok (.ireturn, 1) := by decide +kernel
theorem dX10_told_37 : decode cX10_told 37 = .ok (.iload_n 2, 1) := by decide +kernel
theorem dX10_told_38 : decode cX10_told 38 = .ok (.ifCond .ne 12, 3) := by decide +kernel
theorem dX10_told_41 : decode cX10_told 41 = .ok (.aload_n 0, 1) := by decide +kernel
theorem dX10_told_42 : decode cX10_told 42 = .ok (.getfield 7, 3) := by decide +kernel
theorem dX10_told_45 : decode cX10_told 45 = .ok (.iload_n 1, 1) := by decide +kernel
theorem dX10_told_46 : decode cX10_told 46 = .ok (.iaload, 1) := by decide +kernel
theorem dX10_told_47 : decode cX10_told 47 = .ok (.goto 51, 3) := by decide +kernel
theorem dX10_told_50 : decode cX10_told 50 = .ok (.iload_n 2, 1) := by decide +kernel
theorem dX10_told_51 : decode cX10_told 51 = .ok (.iconst 1, 1) := by decide +kernel
theorem dX10_told_52 : decode cX10_told 52 = .ok (.if_icmp .ne 12, 3) := by decide +kernel
theorem dX10_told_55 : decode cX10_told 55 = .ok (.aload_n 0, 1) := by decide +kernel
theorem dX10_told_56 : decode cX10_told 56 = .ok (.getfield 13, 3) := by decide +kernel
theorem dX10_told_59 : decode cX10_told 59 = .ok (.iload_n 1, 1) := by decide +kernel
theorem dX10_told_60 : decode cX10_told 60 = .ok (.iaload, 1) := by decide +kernel
theorem dX10_told_61 : decode cX10_told 61 = .ok (.goto 37, 3) := by decide +kernel
theorem dX10_told_64 : decode cX10_told 64 = .ok (.iload_n 2, 1) := by decide +kernel
theorem dX10_told_65 : decode cX10_told 65 = .ok (.iconst 2, 1) := by decide +kernel
theorem dX10_told_66 : decode cX10_told 66 = .ok (.if_icmp .ne 12, 3) := by decide +kernel
theorem dX10_told_69 : decode cX10_told 69 = .ok (.aload_n 0, 1) := by decide +kernel
theorem dX10_told_70 : decode cX10_told 70 = .ok (.getfield 16, 3) := by decide +kernel
theorem dX10_told_73 : decode cX10_told 73 = .ok (.iload_n 1, 1) := by decide +kernel
theorem dX10_told_74 : decode cX10_told 74 = .ok (.iaload, 1) := by decide +kernel
theorem dX10_told_75 : decode cX10_told 75 = .ok (.goto 23, 3) := by decide +kernel
theorem dX10_told_78 : decode cX10_told 78 = .ok (.iload_n 2, 1) := by decide +kernel
theorem dX10_told_79 : decode cX10_told 79 = .ok (.iconst 3, 1) := by decide +kernel
theorem dX10_told_80 : decode cX10_told 80 = .ok (.if_icmp .ne 12, 3) := by decide +kernel
theorem dX10_told_83 : decode cX10_told 83 = .ok (.aload_n 0, 1) := by decide +kernel
theorem dX10_told_84 : decode cX10_told 84 = .ok (.getfield 19, 3) := by decide +kernel
theorem dX10_told_87 : decode cX10_told 87 = .ok (.iload_n 1, 1) := by decide +kernel
theorem dX10_told_88 : decode cX10_told 88 = .ok (.iaload, 1) := by decide +kernel
theorem dX10_told_89 : decode cX10_told 89 = .ok (.goto 9, 3) := by decide +kernel
theorem dX10_told_92 : decode cX10_told 92 = .ok (.aload_n 0, 1) := by decide +kernel
theorem dX10_told_93 : decode cX10_told 93 = .ok (.getfield 22, 3) := by decide +kernel
theorem dX10_told_96 : decode cX10_told 96 = .ok (.iload_n 1, 1) := by decide +kernel
theorem dX10_told_97 : decode cX10_told 97 = .ok (.iaload, 1) := by decide +kernel
theorem dX10_told_98 : decode cX10_told 98 = .ok (.ireturn, 1) := by decide +kernel
theorem dX10_count_0 : decode cX10_count 0 = .ok (.iload_n 1, 1) := by decide +kernel
theorem dX10_count_1 : decode cX10_count 1 = .ok (.tableswitch 60 0 4 #[35, 40, 45, 50, 55], 35) := by decide +kernel
theorem dX10_count_36 : decode cX10_count 36 = .ok (.aload_n 0, 1) := by decide +kernel
theorem dX10_count_37 : decode cX10_count 37 = .ok (.getfield 139, 3) := by decide +kernel
theorem dX10_count_40 : decode cX10_count 40 = .ok (.ireturn, 1) := by decide +kernel
theorem dX10_count_41 : decode cX10_count 41 = .ok (.aload_n 0, 1) := by decide +kernel
theorem dX10_count_42 : decode cX10_count 42 = .ok (.getfield 136, 3) := by decide +kernel
theorem dX10_count_45 : decode cX10_count 45 = .ok (.ireturn, 1) := by decide +kernel
theorem dX10_count_46 : decode cX10_count 46 = .ok (.aload_n 0, 1) := by decide +kernel
theorem dX10_count_47 : decode cX10_count 47 = .ok (.getfield 157, 3) := by decide +kernel
theorem dX10_count_50 : decode cX10_count 50 = .ok (.ireturn, 1) := by decide +kernel
theorem dX10_count_51 : decode cX10_count 51 = .ok (.aload_n 0, 1) := by decide +kernel
theorem dX10_count_52 : decode cX10_count 52 = .ok (.getfield 160, 3) := by decide +kernel
theorem dX10_count_55 : decode cX10_count 55 = .ok (.ireturn, 1) := by decide +kernel
theorem dX10_count_56 : decode cX10_count 56 = .ok (.aload_n 0, 1) := by decide +kernel
theorem dX10_count_57 : decode cX10_count 57 = .ok (.getfield 124, 3) := by decide +kernel
theorem dX10_count_60 : decode cX10_count 60 = .ok (.ireturn, 1) := by decide +kernel
theorem dX10_count_61 : decode cX10_count 61 = .ok (.bipush (-2), 2) := by decide +kernel
theorem dX10_count_63 : decode cX10_count 63 = .ok (.ireturn, 1) := by decide +kernel
theorem dX10_isByte_0 : decode cX10_isByte 0 = .ok (.iload_n 0, 1) := by decide +kernel
theorem dX10_isByte_1 : decode cX10_isByte 1 = .ok (.iconst 0, 1) := by decide +kernel
theorem dX10_isByte_2 : decode cX10_isByte 2 = .ok (.sipush 255, 3) := by decide +kernel
theorem dX10_isByte_5 : decode cX10_isByte 5 = .ok (.invokestatic 132, 3) := by decide +kernel
theorem dX10_isByte_8 : decode cX10_isByte 8 = .ok (.ireturn, 1) := by decide +kernel
theorem dX10_feed_0 : decode cX10_feed 0 = .ok (.iload_n 1, 1) := by decide +kernel
theorem dX10_feed_1 : decode cX10_feed 1 = .ok (.iconst 1, 1) := by decide +kernel
theorem dX10_feed_2 : decode cX10_feed 2 = .ok (.iconst 5, 1) := by decide +kernel
theorem dX10_feed_3 : decode cX10_feed 3 = .ok (.invokestatic 132, 3) := by decide +kernel
theorem dX10_feed_6 : decode cX10_feed 6 = .ok (.ifCond .eq 41, 3) := by decide +kernel
theorem dX10_feed_9 : decode cX10_feed 9 = .ok (.iload_n 2, 1) := by decide +kernel
theorem dX10_feed_10 : decode cX10_feed 10 = .ok (.invokestatic 163, 3) := by decide +kernel
theorem dX10_feed_13 : decode cX10_feed 13 = .ok (.ifCond .eq 34, 3) := by decide +kernel
theorem dX10_feed_16 : decode cX10_feed 16 = .ok (.iload_n 3, 1) := by decide +kernel
theorem dX10_feed_17 : decode cX10_feed 17 = .ok (.invokestatic 163, 3) := by decide +kernel
theorem dX10_feed_20 : decode cX10_feed 20 = .ok (.ifCond .eq 27, 3) := by decide +kernel
theorem dX10_feed_23 : decode cX10_feed 23 = .ok (.iload 4, 2) := by decide +kernel
theorem dX10_feed_25 : decode cX10_feed 25 = .ok (.invokestatic 163, 3) := by decide +kernel
theorem dX10_feed_28 : decode cX10_feed 28 = .ok (.ifCond .eq 19, 3) := by decide +kernel
theorem dX10_feed_31 : decode cX10_feed 31 = .ok (.iload 5, 2) := by decide +kernel
theorem dX10_feed_33 : decode cX10_feed 33 = .ok (.invokestatic 163, 3) := by decide +kernel
theorem dX10_feed_36 : decode cX10_feed 36 = .ok (.ifCond .eq 11, 3) := by decide +kernel
theorem dX10_feed_39 : decode cX10_feed 39 = .ok (.iload 6, 2) := by decide +kernel
theorem dX10_feed_41 : decode cX10_feed 41 = .ok (.invokestatic 163, 3) := by decide +kernel
theorem dX10_feed_44 : decode cX10_feed 44 = .ok (.ifCond .ne 6, 3) := by decide +kernel
theorem dX10_feed_47 : decode cX10_feed 47 = .ok (.bipush (-2), 2) := by decide +kernel
theorem dX10_feed_49 : decode cX10_feed 49 = .ok (.ireturn, 1) := by decide +kernel
theorem dX10_feed_50 : decode cX10_feed 50 = .ok (.aload_n 0, 1) := by decide +kernel
theorem dX10_feed_51 : decode cX10_feed 51 = .ok (.getfield 124, 3) := by decide +kernel
theorem dX10_feed_54 : decode cX10_feed 54 = .ok (.iload_n 1, 1) := by decide +kernel
theorem dX10_feed_55 : decode cX10_feed 55 = .ok (.iadd, 1) := by decide +kernel
theorem dX10_feed_56 : decode cX10_feed 56 = .ok (.sipush 160, 3) := by decide +kernel
theorem dX10_feed_59 : decode cX10_feed 59 = .ok (.if_icmp .le 6, 3) := by decide +kernel
theorem dX10_feed_62 : decode cX10_feed 62 = .ok (.bipush (-4), 2) := by decide +kernel
theorem dX10_feed_64 : decode cX10_feed 64 = .ok (.ireturn, 1) := by decide +kernel
theorem dX10_feed_65 : decode cX10_feed 65 = .ok (.iconst 0, 1) := by decide +kernel
theorem dX10_feed_66 : decode cX10_feed 66 = .ok (.istore 7, 2) := by decide +kernel
theorem dX10_feed_68 : decode cX10_feed 68 = .ok (.iload 7, 2) := by decide +kernel
theorem dX10_feed_70 : decode cX10_feed 70 = .ok (.iload_n 1, 1) := by decide +kernel
theorem dX10_feed_71 : decode cX10_feed 71 = .ok (.if_icmp .ge 71, 3) := by decide +kernel
theorem dX10_feed_74 : decode cX10_feed 74 = .ok (.aload_n 0, 1) := by decide +kernel
theorem dX10_feed_75 : decode cX10_feed 75 = .ok (.getfield 55, 3) := by decide +kernel
theorem dX10_feed_78 : decode cX10_feed 78 = .ok (.aload_n 0, 1) := by decide +kernel
theorem dX10_feed_79 : decode cX10_feed 79 = .ok (.getfield 124, 3) := by decide +kernel
theorem dX10_feed_82 : decode cX10_feed 82 = .ok (.iload 7, 2) := by decide +kernel
theorem dX10_feed_84 : decode cX10_feed 84 = .ok (.ifCond .ne 7, 3) := by decide +kernel
theorem dX10_feed_87 : decode cX10_feed 87 = .ok (.iload_n 2, 1) := by decide +kernel
theorem dX10_feed_88 : decode cX10_feed 88 = .ok (.goto 37, 3) := by decide +kernel
theorem dX10_feed_91 : decode cX10_feed 91 = .ok (.iload 7, 2) := by decide +kernel
theorem dX10_feed_93 : decode cX10_feed 93 = .ok (.iconst 1, 1) := by decide +kernel
theorem dX10_feed_94 : decode cX10_feed 94 = .ok (.if_icmp .ne 7, 3) := by decide +kernel
theorem dX10_feed_97 : decode cX10_feed 97 = .ok (.iload_n 3, 1) := by decide +kernel
theorem dX10_feed_98 : decode cX10_feed 98 = .ok (.goto 27, 3) := by decide +kernel
theorem dX10_feed_101 : decode cX10_feed 101 = .ok (.iload 7, 2) := by decide +kernel
theorem dX10_feed_103 : decode cX10_feed 103 = .ok (.iconst 2, 1) := by decide +kernel
theorem dX10_feed_104 : decode cX10_feed 104 = .ok (.if_icmp .ne 8, 3) := by decide +kernel
theorem dX10_feed_107 : decode cX10_feed 107 = .ok (.iload 4, 2) := by decide +kernel
theorem dX10_feed_109 : decode cX10_feed 109 = .ok (.goto 16, 3) := by decide +kernel
theorem dX10_feed_112 : decode cX10_feed 112 = .ok (.iload 7, 2) := by decide +kernel
theorem dX10_feed_114 : decode cX10_feed 114 = .ok (.iconst 3, 1) := by decide +kernel
theorem dX10_feed_115 : decode cX10_feed 115 = .ok (.if_icmp .ne 8, 3) := by decide +kernel
theorem dX10_feed_118 : decode cX10_feed 118 = .ok (.iload 5, 2) := by decide +kernel
theorem dX10_feed_120 : decode cX10_feed 120 = .ok (.goto 5, 3) := by decide +kernel
theorem dX10_feed_123 : decode cX10_feed 123 = .ok (.iload 6, 2) := by decide +kernel
theorem dX10_feed_125 : decode cX10_feed 125 = .ok (.iastore, 1) := by decide +kernel
theorem dX10_feed_126 : decode cX10_feed 126 = .ok (.aload_n 0, 1) := by decide +kernel
theorem dX10_feed_127 : decode cX10_feed 127 = .ok (.dup, 1) := by decide +kernel
theorem dX10_feed_128 : decode cX10_feed 128 = .ok (.getfield 124, 3) := by decide +kernel
theorem dX10_feed_131 : decode cX10_feed 131 = .ok (.iconst 1, 1) := by decide +kernel
theorem dX10_feed_132 : decode cX10_feed 132 = .ok (.iadd, 1) := by decide +kernel
theorem dX10_feed_133 : decode cX10_feed 133 = .ok (.putfield 124, 3) := by decide +kernel
theorem dX10_feed_136 : decode cX10_feed 136 = .ok (.iinc 7 1, 3) := by decide +kernel
theorem dX10_feed_139 : decode cX10_feed 139 = .ok (.goto (-71), 3) := by decide +kernel
theorem dX10_feed_142 : decode cX10_feed 142 = .ok (.aload_n 0, 1) := by decide +kernel
theorem dX10_feed_143 : decode cX10_feed 143 = .ok (.getfield 124, 3) := by decide +kernel
theorem dX10_feed_146 : decode cX10_feed 146 = .ok (.ireturn, 1) := by decide +kernel
theorem dX10_wordFrom_0 : decode cX10_wordFrom 0 = .ok (.iconst 0, 1) := by decide +kernel
theorem dX10_wordFrom_1 : decode cX10_wordFrom 1 = .ok (.istore_n 3, 1) := by decide +kernel
theorem dX10_wordFrom_2 : decode cX10_wordFrom 2 = .ok (.iload_n 3, 1) := by decide +kernel
theorem dX10_wordFrom_3 : decode cX10_wordFrom 3 = .ok (.bipush 12, 2) := by decide +kernel
theorem dX10_wordFrom_5 : decode cX10_wordFrom 5 = .ok (.if_icmp .ge 96, 3) := by decide +kernel
theorem dX10_wordFrom_8 : decode cX10_wordFrom 8 = .ok (.iload_n 2, 1) := by decide +kernel
theorem dX10_wordFrom_9 : decode cX10_wordFrom 9 = .ok (.iload_n 1, 1) := by decide +kernel
theorem dX10_wordFrom_10 : decode cX10_wordFrom 10 = .ok (.isub, 1) := by decide +kernel
theorem dX10_wordFrom_11 : decode cX10_wordFrom 11 = .ok (.bipush 8, 2) := by decide +kernel
theorem dX10_wordFrom_13 : decode cX10_wordFrom 13 = .ok (.if_icmp .gt 7, 3) := by decide +kernel
theorem dX10_wordFrom_16 : decode cX10_wordFrom 16 = .ok (.iconst 1, 1) := by decide +kernel
theorem dX10_wordFrom_17 : decode cX10_wordFrom 17 = .ok (.goto 4, 3) := by decide +kernel
theorem dX10_wordFrom_20 : decode cX10_wordFrom 20 = .ok (.iconst 0, 1) := by decide +kernel
theorem dX10_wordFrom_21 : decode cX10_wordFrom 21 = .ok (.istore 4, 2) := by decide +kernel
theorem dX10_wordFrom_23 : decode cX10_wordFrom 23 = .ok (.iconst 0, 1) := by decide +kernel
theorem dX10_wordFrom_24 : decode cX10_wordFrom 24 = .ok (.istore 5, 2) := by decide +kernel
theorem dX10_wordFrom_26 : decode cX10_wordFrom 26 = .ok (.iload 5, 2) := by decide +kernel
theorem dX10_wordFrom_28 : decode cX10_wordFrom 28 = .ok (.bipush 8, 2) := by decide +kernel
theorem dX10_wordFrom_30 : decode cX10_wordFrom 30 = .ok (.if_icmp .ge 58, 3) := by decide +kernel
theorem dX10_wordFrom_33 : decode cX10_wordFrom 33 = .ok (.iload 4, 2) := by decide +kernel
theorem dX10_wordFrom_35 : decode cX10_wordFrom 35 = .ok (.ifCond .eq 53, 3) := by decide +kernel
theorem dX10_wordFrom_38 : decode cX10_wordFrom 38 = .ok (.aload_n 0, 1) := by decide +kernel
theorem dX10_wordFrom_39 : decode cX10_wordFrom 39 = .ok (.getfield 88, 3) := by decide +kernel
theorem dX10_wordFrom_42 : decode cX10_wordFrom 42 = .ok (.bipush 8, 2) := by decide +kernel
theorem dX10_wordFrom_44 : decode cX10_wordFrom 44 = .ok (.iload_n 3, 1) := by decide +kernel
theorem dX10_wordFrom_45 : decode cX10_wordFrom 45 = .ok (.imul, 1) := by decide +kernel
theorem dX10_wordFrom_46 : decode cX10_wordFrom 46 = .ok (.iload 5, 2) := by decide +kernel
theorem dX10_wordFrom_48 : decode cX10_wordFrom 48 = .ok (.iadd, 1) := by decide +kernel
theorem dX10_wordFrom_49 : decode cX10_wordFrom 49 = .ok (.iaload, 1) := by decide +kernel
theorem dX10_wordFrom_50 : decode cX10_wordFrom 50 = .ok (.iload_n 1, 1) := by decide +kernel
theorem dX10_wordFrom_51 : decode cX10_wordFrom 51 = .ok (.iload 5, 2) := by decide +kernel
theorem dX10_wordFrom_53 : decode cX10_wordFrom 53 = .ok (.iadd, 1) := by decide +kernel
theorem dX10_wordFrom_54 : decode cX10_wordFrom 54 = .ok (.iload_n 2, 1) := by decide +kernel
theorem dX10_wordFrom_55 : decode cX10_wordFrom 55 = .ok (.if_icmp .ge 15, 3) := by decide +kernel
theorem dX10_wordFrom_58 : decode cX10_wordFrom 58 = .ok (.aload_n 0, 1) := by decide +kernel
theorem dX10_wordFrom_59 : decode cX10_wordFrom 59 = .ok (.getfield 55, 3) := by decide +kernel
theorem dX10_wordFrom_62 : decode cX10_wordFrom 62 = .ok (.iload_n 1, 1) := by decide +kernel
theorem dX10_wordFrom_63 : decode cX10_wordFrom 63 = .ok (.iload 5, 2) := by decide +kernel
theorem dX10_wordFrom_65 : decode cX10_wordFrom 65 = .ok (.iadd, 1) := by decide +kernel
theorem dX10_wordFrom_66 : decode cX10_wordFrom 66 = .ok (.iaload, 1) := by decide +kernel
theorem dX10_wordFrom_67 : decode cX10_wordFrom 67 = .ok (.goto 5, 3) := by decide +kernel
theorem dX10_wordFrom_70 : decode cX10_wordFrom 70 = .ok (.bipush 32, 2) := by decide +kernel
theorem dX10_wordFrom_72 : decode cX10_wordFrom 72 = .ok (.if_icmp .ne 7, 3) := by decide +kernel
theorem dX10_wordFrom_75 : decode cX10_wordFrom 75 = .ok (.iconst 1, 1) := by decide +kernel
theorem dX10_wordFrom_76 : decode cX10_wordFrom 76 = .ok (.goto 4, 3) := by decide +kernel
theorem dX10_wordFrom_79 : decode cX10_wordFrom 79 = .ok (.iconst 0, 1) := by decide +kernel
theorem dX10_wordFrom_80 : decode cX10_wordFrom 80 = .ok (.istore 4, 2) := by decide +kernel
theorem dX10_wordFrom_82 : decode cX10_wordFrom 82 = .ok (.iinc 5 1, 3) := by decide +kernel
theorem dX10_wordFrom_85 : decode cX10_wordFrom 85 = .ok (.goto (-59), 3) := by decide +kernel
theorem dX10_wordFrom_88 : decode cX10_wordFrom 88 = .ok (.iload 4, 2) := by decide +kernel
theorem dX10_wordFrom_90 : decode cX10_wordFrom 90 = .ok (.ifCond .eq 5, 3) := by decide +kernel
theorem dX10_wordFrom_93 : decode cX10_wordFrom 93 = .ok (.iload_n 3, 1) := by decide +kernel
theorem dX10_wordFrom_94 : decode cX10_wordFrom 94 = .ok (.ireturn, 1) := by decide +kernel
theorem dX10_wordFrom_95 : decode cX10_wordFrom 95 = .ok (.iinc 3 1, 3) := by decide +kernel
theorem dX10_wordFrom_98 : decode cX10_wordFrom 98 = .ok (.goto (-96), 3) := by decide +kernel
theorem dX10_wordFrom_101 : decode cX10_wordFrom 101 = .ok (.bipush 12, 2) := by decide +kernel
theorem dX10_wordFrom_103 : decode cX10_wordFrom 103 = .ok (.ireturn, 1) := by decide +kernel
theorem dX10_next_0 : decode cX10_next 0 = .ok (.aload_n 0, 1) := by decide +kernel
theorem dX10_next_1 : decode cX10_next 1 = .ok (.getfield 166, 3) := by decide +kernel
theorem dX10_next_4 : decode cX10_next 4 = .ok (.aload_n 0, 1) := by decide +kernel
theorem dX10_next_5 : decode cX10_next 5 = .ok (.getfield 124, 3) := by decide +kernel
theorem dX10_next_8 : decode cX10_next 8 = .ok (.if_icmp .ge 44, 3) := by decide +kernel
theorem dX10_next_11 : decode cX10_next 11 = .ok (.aload_n 0, 1) := by decide +kernel
theorem dX10_next_12 : decode cX10_next 12 = .ok (.getfield 55, 3) := by decide +kernel
theorem dX10_next_15 : decode cX10_next 15 = .ok (.aload_n 0, 1) := by decide +kernel
theorem dX10_next_16 : decode cX10_next 16 = .ok (.getfield 166, 3) := by decide +kernel
theorem dX10_next_19 : decode cX10_next 19 = .ok (.iaload, 1) := by decide +kernel
theorem dX10_next_20 : decode cX10_next 20 = .ok (.bipush 32, 2) := by decide +kernel
theorem dX10_next_22 : decode cX10_next 22 = .ok (.if_icmp .eq 17, 3) := by decide +kernel
theorem dX10_next_25 : decode cX10_next 25 = .ok (.aload_n 0, 1) := by decide +kernel
theorem dX10_next_26 : decode cX10_next 26 = .ok (.getfield 55, 3) := by decide +kernel
theorem dX10_next_29 : decode cX10_next 29 = .ok (.aload_n 0, 1) := by decide +kernel
theorem dX10_next_30 : decode cX10_next 30 = .ok (.getfield 166, 3) := by decide +kernel
theorem dX10_next_33 : decode cX10_next 33 = .ok (.iaload, 1) := by decide +kernel
theorem dX10_next_34 : decode cX10_next 34 = .ok (.bipush 10, 2) := by decide +kernel
theorem dX10_next_36 : decode cX10_next 36 = .ok (.if_icmp .ne 16, 3) := by decide +kernel
theorem dX10_next_39 : decode cX10_next 39 = .ok (.aload_n 0, 1) := by decide +kernel
theorem dX10_next_40 : decode cX10_next 40 = .ok (.dup, 1) := by decide +kernel
theorem dX10_next_41 : decode cX10_next 41 = .ok (.getfield 166, 3) := by decide +kernel
theorem dX10_next_44 : decode cX10_next 44 = .ok (.iconst 1, 1) := by decide +kernel
theorem dX10_next_45 : decode cX10_next 45 = .ok (.iadd, 1) := by decide +kernel
theorem dX10_next_46 : decode cX10_next 46 = .ok (.putfield 166, 3) := by decide +kernel
theorem dX10_next_49 : decode cX10_next 49 = .ok (.goto (-49), 3) := by decide +kernel
theorem dX10_next_52 : decode cX10_next 52 = .ok (.aload_n 0, 1) := by decide +kernel
theorem dX10_next_53 : decode cX10_next 53 = .ok (.aload_n 0, 1) := by decide +kernel
theorem dX10_next_54 : decode cX10_next 54 = .ok (.getfield 166, 3) := by decide +kernel
theorem dX10_next_57 : decode cX10_next 57 = .ok (.putfield 169, 3) := by decide +kernel
theorem dX10_next_60 : decode cX10_next 60 = .ok (.aload_n 0, 1) := by decide +kernel
theorem dX10_next_61 : decode cX10_next 61 = .ok (.iconst 0, 1) := by decide +kernel
theorem dX10_next_62 : decode cX10_next 62 = .ok (.putfield 172, 3) := by decide +kernel
theorem dX10_next_65 : decode cX10_next 65 = .ok (.aload_n 0, 1) := by decide +kernel
theorem dX10_next_66 : decode cX10_next 66 = .ok (.iconst 0, 1) := by decide +kernel
theorem dX10_next_67 : decode cX10_next 67 = .ok (.putfield 175, 3) := by decide +kernel
theorem dX10_next_70 : decode cX10_next 70 = .ok (.aload_n 0, 1) := by decide +kernel
theorem dX10_next_71 : decode cX10_next 71 = .ok (.getfield 166, 3) := by decide +kernel
theorem dX10_next_74 : decode cX10_next 74 = .ok (.aload_n 0, 1) := by decide +kernel
theorem dX10_next_75 : decode cX10_next 75 = .ok (.getfield 124, 3) := by decide +kernel
theorem dX10_next_78 : decode cX10_next 78 = .ok (.if_icmp .ne 4, 3) := by decide +kernel
theorem dX10_next_81 : decode cX10_next 81 = .ok (.return_, 1) := by decide +kernel
theorem dX10_next_82 : decode cX10_next 82 = .ok (.aload_n 0, 1) := by decide +kernel
theorem dX10_next_83 : decode cX10_next 83 = .ok (.getfield 55, 3) := by decide +kernel
theorem dX10_next_86 : decode cX10_next 86 = .ok (.aload_n 0, 1) := by decide +kernel
theorem dX10_next_87 : decode cX10_next 87 = .ok (.getfield 166, 3) := by decide +kernel
theorem dX10_next_90 : decode cX10_next 90 = .ok (.iaload, 1) := by decide +kernel
theorem dX10_next_91 : decode cX10_next 91 = .ok (.istore_n 1, 1) := by decide +kernel
theorem dX10_next_92 : decode cX10_next 92 = .ok (.iload_n 1, 1) := by decide +kernel
theorem dX10_next_93 : decode cX10_next 93 = .ok (.bipush 97, 2) := by decide +kernel
theorem dX10_next_95 : decode cX10_next 95 = .ok (.bipush 122, 2) := by decide +kernel
theorem dX10_next_97 : decode cX10_next 97 = .ok (.invokestatic 132, 3) := by decide +kernel
theorem dX10_next_100 : decode cX10_next 100 = .ok (.ifCond .eq 117, 3) := by decide +kernel
theorem dX10_next_103 : decode cX10_next 103 = .ok (.aload_n 0, 1) := by decide +kernel
theorem dX10_next_104 : decode cX10_next 104 = .ok (.getfield 166, 3) := by decide +kernel
theorem dX10_next_107 : decode cX10_next 107 = .ok (.aload_n 0, 1) := by decide +kernel
theorem dX10_next_108 : decode cX10_next 108 = .ok (.getfield 124, 3) := by decide +kernel
theorem dX10_next_111 : decode cX10_next 111 = .ok (.if_icmp .ge 35, 3) := by decide +kernel
theorem dX10_next_114 : decode cX10_next 114 = .ok (.aload_n 0, 1) := by decide +kernel
theorem dX10_next_115 : decode cX10_next 115 = .ok (.getfield 55, 3) := by decide +kernel
theorem dX10_next_118 : decode cX10_next 118 = .ok (.aload_n 0, 1) := by decide +kernel
theorem dX10_next_119 : decode cX10_next 119 = .ok (.getfield 166, 3) := by decide +kernel
theorem dX10_next_122 : decode cX10_next 122 = .ok (.iaload, 1) := by decide +kernel
theorem dX10_next_123 : decode cX10_next 123 = .ok (.bipush 97, 2) := by decide +kernel
theorem dX10_next_125 : decode cX10_next 125 = .ok (.bipush 122, 2) := by decide +kernel
theorem dX10_next_127 : decode cX10_next 127 = .ok (.invokestatic 132, 3) := by decide +kernel
theorem dX10_next_130 : decode cX10_next 130 = .ok (.ifCond .eq 16, 3) := by decide +kernel
theorem dX10_next_133 : decode cX10_next 133 = .ok (.aload_n 0, 1) := by decide +kernel
theorem dX10_next_134 : decode cX10_next 134 = .ok (.dup, 1) := by decide +kernel
theorem dX10_next_135 : decode cX10_next 135 = .ok (.getfield 166, 3) := by decide +kernel
theorem dX10_next_138 : decode cX10_next 138 = .ok (.iconst 1, 1) := by decide +kernel
theorem dX10_next_139 : decode cX10_next 139 = .ok (.iadd, 1) := by decide +kernel
theorem dX10_next_140 : decode cX10_next 140 = .ok (.putfield 166, 3) := by decide +kernel
theorem dX10_next_143 : decode cX10_next 143 = .ok (.goto (-40), 3) := by decide +kernel
theorem dX10_next_146 : decode cX10_next 146 = .ok (.aload_n 0, 1) := by decide +kernel
theorem dX10_next_147 : decode cX10_next 147 = .ok (.aload_n 0, 1) := by decide +kernel
theorem dX10_next_148 : decode cX10_next 148 = .ok (.getfield 169, 3) := by decide +kernel
theorem dX10_next_151 : decode cX10_next 151 = .ok (.aload_n 0, 1) := by decide +kernel
theorem dX10_next_152 : decode cX10_next 152 = .ok (.getfield 166, 3) := by decide +kernel
theorem dX10_next_155 : decode cX10_next 155 = .ok (.invokevirtual 178, 3) := by decide +kernel
theorem dX10_next_158 : decode cX10_next 158 = .ok (.istore_n 2, 1) := by decide +kernel
theorem dX10_next_159 : decode cX10_next 159 = .ok (.aload_n 0, 1) := by decide +kernel
theorem dX10_next_160 : decode cX10_next 160 = .ok (.iload_n 2, 1) := by decide +kernel
theorem dX10_next_161 : decode cX10_next 161 = .ok (.iconst 3, 1) := by decide +kernel
theorem dX10_next_162 : decode cX10_next 162 = .ok (.if_icmp .ge 7, 3) := by decide +kernel
theorem dX10_next_165 : decode cX10_next 165 = .ok (.iconst 3, 1) := by decide +kernel
theorem dX10_next_166 : decode cX10_next 166 = .ok (.goto 29, 3) := by decide +kernel
theorem dX10_next_169 : decode cX10_next 169 = .ok (.iload_n 2, 1) := by decide +kernel
theorem dX10_next_170 : decode cX10_next 170 = .ok (.bipush 9, 2) := by decide +kernel
theorem dX10_next_172 : decode cX10_next 172 = .ok (.if_icmp .ge 7, 3) := by decide +kernel
theorem dX10_next_175 : decode cX10_next 175 = .ok (.iconst 2, 1) := by decide +kernel
theorem dX10_next_176 : decode cX10_next 176 = .ok (.goto 19, 3) := by decide +kernel
theorem dX10_next_179 : decode cX10_next 179 = .ok (.iload_n 2, 1) := by decide +kernel
theorem dX10_next_180 : decode cX10_next 180 = .ok (.bipush 12, 2) := by decide +kernel
theorem dX10_next_182 : decode cX10_next 182 = .ok (.if_icmp .ne 7, 3) := by decide +kernel
theorem dX10_next_185 : decode cX10_next 185 = .ok (.iconst (-1), 1) := by decide +kernel
theorem dX10_next_186 : decode cX10_next 186 = .ok (.goto 9, 3) := by decide +kernel
theorem dX10_next_189 : decode cX10_next 189 = .ok (.iconst 4, 1) := by decide +kernel
theorem dX10_next_190 : decode cX10_next 190 = .ok (.iload_n 2, 1) := by decide +kernel
theorem dX10_next_191 : decode cX10_next 191 = .ok (.iadd, 1) := by decide +kernel
theorem dX10_next_192 : decode cX10_next 192 = .ok (.bipush 9, 2) := by decide +kernel
theorem dX10_next_194 : decode cX10_next 194 = .ok (.isub, 1) := by decide +kernel
theorem dX10_next_195 : decode cX10_next 195 = .ok (.putfield 172, 3) := by decide +kernel
theorem dX10_next_198 : decode cX10_next 198 = .ok (.aload_n 0, 1) := by decide +kernel
theorem dX10_next_199 : decode cX10_next 199 = .ok (.iload_n 2, 1) := by decide +kernel
theorem dX10_next_200 : decode cX10_next 200 = .ok (.iconst 3, 1) := by decide +kernel
theorem dX10_next_201 : decode cX10_next 201 = .ok (.if_icmp .ge 7, 3) := by decide +kernel
theorem dX10_next_204 : decode cX10_next 204 = .ok (.iload_n 2, 1) := by decide +kernel
theorem dX10_next_205 : decode cX10_next 205 = .ok (.goto 6, 3) := by decide +kernel
theorem dX10_next_208 : decode cX10_next 208 = .ok (.iload_n 2, 1) := by decide +kernel
theorem dX10_next_209 : decode cX10_next 209 = .ok (.iconst 3, 1) := by decide +kernel
theorem dX10_next_210 : decode cX10_next 210 = .ok (.isub, 1) := by decide +kernel
theorem dX10_next_211 : decode cX10_next 211 = .ok (.putfield 175, 3) := by decide +kernel
theorem dX10_next_214 : decode cX10_next 214 = .ok (.goto 189, 3) := by decide +kernel
theorem dX10_next_217 : decode cX10_next 217 = .ok (.iload_n 1, 1) := by decide +kernel
theorem dX10_next_218 : decode cX10_next 218 = .ok (.bipush 48, 2) := by decide +kernel
theorem dX10_next_220 : decode cX10_next 220 = .ok (.bipush 57, 2) := by decide +kernel
theorem dX10_next_222 : decode cX10_next 222 = .ok (.invokestatic 132, 3) := by decide +kernel
theorem dX10_next_225 : decode cX10_next 225 = .ok (.ifCond .eq 101, 3) := by decide +kernel
theorem dX10_next_228 : decode cX10_next 228 = .ok (.iconst 0, 1) := by decide +kernel
theorem dX10_next_229 : decode cX10_next 229 = .ok (.istore_n 2, 1) := by decide +kernel
theorem dX10_next_230 : decode cX10_next 230 = .ok (.aload_n 0, 1) := by decide +kernel
theorem dX10_next_231 : decode cX10_next 231 = .ok (.getfield 166, 3) := by decide +kernel
theorem dX10_next_234 : decode cX10_next 234 = .ok (.aload_n 0, 1) := by decide +kernel
theorem dX10_next_235 : decode cX10_next 235 = .ok (.getfield 124, 3) := by decide +kernel
theorem dX10_next_238 : decode cX10_next 238 = .ok (.if_icmp .ge 71, 3) := by decide +kernel
theorem dX10_next_241 : decode cX10_next 241 = .ok (.aload_n 0, 1) := by decide +kernel
theorem dX10_next_242 : decode cX10_next 242 = .ok (.getfield 55, 3) := by decide +kernel
theorem dX10_next_245 : decode cX10_next 245 = .ok (.aload_n 0, 1) := by decide +kernel
theorem dX10_next_246 : decode cX10_next 246 = .ok (.getfield 166, 3) := by decide +kernel
theorem dX10_next_249 : decode cX10_next 249 = .ok (.iaload, 1) := by decide +kernel
theorem dX10_next_250 : decode cX10_next 250 = .ok (.bipush 48, 2) := by decide +kernel
theorem dX10_next_252 : decode cX10_next 252 = .ok (.bipush 57, 2) := by decide +kernel
theorem dX10_next_254 : decode cX10_next 254 = .ok (.invokestatic 132, 3) := by decide +kernel
theorem dX10_next_257 : decode cX10_next 257 = .ok (.ifCond .eq 52, 3) := by decide +kernel
theorem dX10_next_260 : decode cX10_next 260 = .ok (.aload_n 0, 1) := by decide +kernel
theorem dX10_next_261 : decode cX10_next 261 = .ok (.iload_n 2, 1) := by decide +kernel
theorem dX10_next_262 : decode cX10_next 262 = .ok (.iconst 4, 1) := by decide +kernel
theorem dX10_next_263 : decode cX10_next 263 = .ok (.if_icmp .ge 26, 3) := by decide +kernel
theorem dX10_next_266 : decode cX10_next 266 = .ok (.bipush 10, 2) := by decide +kernel
theorem dX10_next_268 : decode cX10_next 268 = .ok (.aload_n 0, 1) := by decide +kernel
theorem dX10_next_269 : decode cX10_next 269 = .ok (.getfield 175, 3) := by decide +kernel
theorem dX10_next_272 : decode cX10_next 272 = .ok (.imul, 1) := by decide +kernel
theorem dX10_next_273 : decode cX10_next 273 = .ok (.aload_n 0, 1) := by decide +kernel
theorem dX10_next_274 : decode cX10_next 274 = .ok (.getfield 55, 3) := by decide +kernel
theorem dX10_next_277 : decode cX10_next 277 = .ok (.aload_n 0, 1) := by decide +kernel
theorem dX10_next_278 : decode cX10_next 278 = .ok (.getfield 166, 3) := by decide +kernel
theorem dX10_next_281 : decode cX10_next 281 = .ok (.iaload, 1) := by decide +kernel
theorem dX10_next_282 : decode cX10_next 282 = .ok (.iadd, 1) := by decide +kernel
theorem dX10_next_283 : decode cX10_next 283 = .ok (.bipush 48, 2) := by decide +kernel
theorem dX10_next_285 : decode cX10_next 285 = .ok (.isub, 1) := by decide +kernel
theorem dX10_next_286 : decode cX10_next 286 = .ok (.goto 4, 3) := by decide +kernel
theorem dX10_next_289 : decode cX10_next 289 = .ok (.iconst 0, 1) := by decide +kernel
theorem dX10_next_290 : decode cX10_next 290 = .ok (.putfield 175, 3) := by decide +kernel
theorem dX10_next_293 : decode cX10_next 293 = .ok (.iinc 2 1, 3) := by decide +kernel
theorem dX10_next_296 : decode cX10_next 296 = .ok (.aload_n 0, 1) := by decide +kernel
theorem dX10_next_297 : decode cX10_next 297 = .ok (.dup, 1) := by decide +kernel
theorem dX10_next_298 : decode cX10_next 298 = .ok (.getfield 166, 3) := by decide +kernel
theorem dX10_next_301 : decode cX10_next 301 = .ok (.iconst 1, 1) := by decide +kernel
theorem dX10_next_302 : decode cX10_next 302 = .ok (.iadd, 1) := by decide +kernel
theorem dX10_next_303 : decode cX10_next 303 = .ok (.putfield 166, 3) := by decide +kernel
theorem dX10_next_306 : decode cX10_next 306 = .ok (.goto (-76), 3) := by decide +kernel
theorem dX10_next_309 : decode cX10_next 309 = .ok (.aload_n 0, 1) := by decide +kernel
theorem dX10_next_310 : decode cX10_next 310 = .ok (.iload_n 2, 1) := by decide +kernel
theorem dX10_next_311 : decode cX10_next 311 = .ok (.iconst 4, 1) := by decide +kernel
theorem dX10_next_312 : decode cX10_next 312 = .ok (.if_icmp .le 7, 3) := by decide +kernel
theorem dX10_next_315 : decode cX10_next 315 = .ok (.iconst (-1), 1) := by decide +kernel
theorem dX10_next_316 : decode cX10_next 316 = .ok (.goto 4, 3) := by decide +kernel
theorem dX10_next_319 : decode cX10_next 319 = .ok (.iconst 1, 1) := by decide +kernel
theorem dX10_next_320 : decode cX10_next 320 = .ok (.putfield 172, 3) := by decide +kernel
theorem dX10_next_323 : decode cX10_next 323 = .ok (.goto 80, 3) := by decide +kernel
theorem dX10_next_326 : decode cX10_next 326 = .ok (.iload_n 1, 1) := by decide +kernel
theorem dX10_next_327 : decode cX10_next 327 = .ok (.bipush 40, 2) := by decide +kernel
theorem dX10_next_329 : decode cX10_next 329 = .ok (.if_icmp .eq 45, 3) := by decide +kernel
theorem dX10_next_332 : decode cX10_next 332 = .ok (.iload_n 1, 1) := by decide +kernel
theorem dX10_next_333 : decode cX10_next 333 = .ok (.bipush 41, 2) := by decide +kernel
theorem dX10_next_335 : decode cX10_next 335 = .ok (.if_icmp .eq 39, 3) := by decide +kernel
theorem dX10_next_338 : decode cX10_next 338 = .ok (.iload_n 1, 1) := by decide +kernel
theorem dX10_next_339 : decode cX10_next 339 = .ok (.bipush 59, 2) := by decide +kernel
theorem dX10_next_341 : decode cX10_next 341 = .ok (.if_icmp .eq 33, 3) := by decide +kernel
theorem dX10_next_344 : decode cX10_next 344 = .ok (.iload_n 1, 1) := by decide +kernel
theorem dX10_next_345 : decode cX10_next 345 = .ok (.bipush 43, 2) := by decide +kernel
theorem dX10_next_347 : decode cX10_next 347 = .ok (.if_icmp .eq 27, 3) := by decide +kernel
theorem dX10_next_350 : decode cX10_next 350 = .ok (.iload_n 1, 1) := by decide +kernel
theorem dX10_next_351 : decode cX10_next 351 = .ok (.bipush 45, 2) := by decide +kernel
theorem dX10_next_353 : decode cX10_next 353 = .ok (.if_icmp .eq 21, 3) := by decide +kernel
theorem dX10_next_356 : decode cX10_next 356 = .ok (.iload_n 1, 1) := by decide +kernel
theorem dX10_next_357 : decode cX10_next 357 = .ok (.bipush 42, 2) := by decide +kernel
theorem dX10_next_359 : decode cX10_next 359 = .ok (.if_icmp .eq 15, 3) := by decide +kernel
theorem dX10_next_362 : decode cX10_next 362 = .ok (.iload_n 1, 1) := by decide +kernel
theorem dX10_next_363 : decode cX10_next 363 = .ok (.bipush 60, 2) := by decide +kernel
theorem dX10_next_365 : decode cX10_next 365 = .ok (.if_icmp .eq 9, 3) := by decide +kernel
theorem dX10_next_368 : decode cX10_next 368 = .ok (.iload_n 1, 1) := by decide +kernel
theorem dX10_next_369 : decode cX10_next 369 = .ok (.bipush 61, 2) := by decide +kernel
theorem dX10_next_371 : decode cX10_next 371 = .ok (.if_icmp .ne 7, 3) := by decide +kernel
theorem dX10_next_374 : decode cX10_next 374 = .ok (.iconst 1, 1) := by decide +kernel
theorem dX10_next_375 : decode cX10_next 375 = .ok (.goto 4, 3) := by decide +kernel
theorem dX10_next_378 : decode cX10_next 378 = .ok (.iconst 0, 1) := by decide +kernel
theorem dX10_next_379 : decode cX10_next 379 = .ok (.istore_n 2, 1) := by decide +kernel
theorem dX10_next_380 : decode cX10_next 380 = .ok (.aload_n 0, 1) := by decide +kernel
theorem dX10_next_381 : decode cX10_next 381 = .ok (.iload_n 2, 1) := by decide +kernel
theorem dX10_next_382 : decode cX10_next 382 = .ok (.ifCond .eq 7, 3) := by decide +kernel
theorem dX10_next_385 : decode cX10_next 385 = .ok (.iload_n 1, 1) := by decide +kernel
theorem dX10_next_386 : decode cX10_next 386 = .ok (.goto 4, 3) := by decide +kernel
theorem dX10_next_389 : decode cX10_next 389 = .ok (.iconst (-1), 1) := by decide +kernel
theorem dX10_next_390 : decode cX10_next 390 = .ok (.putfield 172, 3) := by decide +kernel
theorem dX10_next_393 : decode cX10_next 393 = .ok (.aload_n 0, 1) := by decide +kernel
theorem dX10_next_394 : decode cX10_next 394 = .ok (.dup, 1) := by decide +kernel
theorem dX10_next_395 : decode cX10_next 395 = .ok (.getfield 166, 3) := by decide +kernel
theorem dX10_next_398 : decode cX10_next 398 = .ok (.iconst 1, 1) := by decide +kernel
theorem dX10_next_399 : decode cX10_next 399 = .ok (.iadd, 1) := by decide +kernel
theorem dX10_next_400 : decode cX10_next 400 = .ok (.putfield 166, 3) := by decide +kernel
theorem dX10_next_403 : decode cX10_next 403 = .ok (.return_, 1) := by decide +kernel
theorem dX10_rank_0 : decode cX10_rank 0 = .ok (.iload_n 0, 1) := by decide +kernel
theorem dX10_rank_1 : decode cX10_rank 1 = .ok (.ifCond .ne 7, 3) := by decide +kernel
theorem dX10_rank_4 : decode cX10_rank 4 = .ok (.iconst 0, 1) := by decide +kernel
theorem dX10_rank_5 : decode cX10_rank 5 = .ok (.goto 66, 3) := by decide +kernel
theorem dX10_rank_8 : decode cX10_rank 8 = .ok (.iload_n 0, 1) := by decide +kernel
theorem dX10_rank_9 : decode cX10_rank 9 = .ok (.bipush 11, 2) := by decide +kernel
theorem dX10_rank_11 : decode cX10_rank 11 = .ok (.if_icmp .ne 7, 3) := by decide +kernel
theorem dX10_rank_14 : decode cX10_rank 14 = .ok (.iconst 1, 1) := by decide +kernel
theorem dX10_rank_15 : decode cX10_rank 15 = .ok (.goto 56, 3) := by decide +kernel
theorem dX10_rank_18 : decode cX10_rank 18 = .ok (.iload_n 0, 1) := by decide +kernel
theorem dX10_rank_19 : decode cX10_rank 19 = .ok (.bipush 12, 2) := by decide +kernel
theorem dX10_rank_21 : decode cX10_rank 21 = .ok (.if_icmp .ne 7, 3) := by decide +kernel
theorem dX10_rank_24 : decode cX10_rank 24 = .ok (.iconst 2, 1) := by decide +kernel
theorem dX10_rank_25 : decode cX10_rank 25 = .ok (.goto 46, 3) := by decide +kernel
theorem dX10_rank_28 : decode cX10_rank 28 = .ok (.iload_n 0, 1) := by decide +kernel
theorem dX10_rank_29 : decode cX10_rank 29 = .ok (.bipush 13, 2) := by decide +kernel
theorem dX10_rank_31 : decode cX10_rank 31 = .ok (.if_icmp .ne 7, 3) := by decide +kernel
theorem dX10_rank_34 : decode cX10_rank 34 = .ok (.iconst 3, 1) := by decide +kernel
theorem dX10_rank_35 : decode cX10_rank 35 = .ok (.goto 36, 3) := by decide +kernel
theorem dX10_rank_38 : decode cX10_rank 38 = .ok (.iload_n 0, 1) := by decide +kernel
theorem dX10_rank_39 : decode cX10_rank 39 = .ok (.bipush 15, 2) := by decide +kernel
theorem dX10_rank_41 : decode cX10_rank 41 = .ok (.if_icmp .gt 7, 3) := by decide +kernel
theorem dX10_rank_44 : decode cX10_rank 44 = .ok (.iconst 4, 1) := by decide +kernel
theorem dX10_rank_45 : decode cX10_rank 45 = .ok (.goto 26, 3) := by decide +kernel
theorem dX10_rank_48 : decode cX10_rank 48 = .ok (.iload_n 0, 1) := by decide +kernel
theorem dX10_rank_49 : decode cX10_rank 49 = .ok (.bipush 17, 2) := by decide +kernel
theorem dX10_rank_51 : decode cX10_rank 51 = .ok (.if_icmp .gt 7, 3) := by decide +kernel
theorem dX10_rank_54 : decode cX10_rank 54 = .ok (.iconst 5, 1) := by decide +kernel
theorem dX10_rank_55 : decode cX10_rank 55 = .ok (.goto 16, 3) := by decide +kernel
theorem dX10_rank_58 : decode cX10_rank 58 = .ok (.iload_n 0, 1) := by decide +kernel
theorem dX10_rank_59 : decode cX10_rank 59 = .ok (.bipush 18, 2) := by decide +kernel
theorem dX10_rank_61 : decode cX10_rank 61 = .ok (.if_icmp .ne 8, 3) := by decide +kernel
theorem dX10_rank_64 : decode cX10_rank 64 = .ok (.bipush 6, 2) := by decide +kernel
theorem dX10_rank_66 : decode cX10_rank 66 = .ok (.goto 5, 3) := by decide +kernel
theorem dX10_rank_69 : decode cX10_rank 69 = .ok (.bipush 7, 2) := by decide +kernel
theorem dX10_rank_71 : decode cX10_rank 71 = .ok (.ireturn, 1) := by decide +kernel
theorem dX10_puts_0 : decode cX10_puts 0 = .ok (.aload_n 0, 1) := by decide +kernel
theorem dX10_puts_1 : decode cX10_puts 1 = .ok (.getfield 58, 3) := by decide +kernel
theorem dX10_puts_4 : decode cX10_puts 4 = .ok (.sipush 200, 3) := by decide +kernel
theorem dX10_puts_7 : decode cX10_puts 7 = .ok (.aload_n 0, 1) := by decide +kernel
theorem dX10_puts_8 : decode cX10_puts 8 = .ok (.getfield 157, 3) := by decide +kernel
theorem dX10_puts_11 : decode cX10_puts 11 = .ok (.imul, 1) := by decide +kernel
theorem dX10_puts_12 : decode cX10_puts 12 = .ok (.aload_n 0, 1) := by decide +kernel
theorem dX10_puts_13 : decode cX10_puts 13 = .ok (.getfield 182, 3) := by decide +kernel
theorem dX10_puts_16 : decode cX10_puts 16 = .ok (.iadd, 1) := by decide +kernel
theorem dX10_puts_17 : decode cX10_puts 17 = .ok (.iload_n 1, 1) := by decide +kernel
theorem dX10_puts_18 : decode cX10_puts 18 = .ok (.iastore, 1) := by decide +kernel
theorem dX10_puts_19 : decode cX10_puts 19 = .ok (.aload_n 0, 1) := by decide +kernel
theorem dX10_puts_20 : decode cX10_puts 20 = .ok (.dup, 1) := by decide +kernel
theorem dX10_puts_21 : decode cX10_puts 21 = .ok (.getfield 182, 3) := by decide +kernel
theorem dX10_puts_24 : decode cX10_puts 24 = .ok (.iconst 1, 1) := by decide +kernel
theorem dX10_puts_25 : decode cX10_puts 25 = .ok (.iadd, 1) := by decide +kernel
theorem dX10_puts_26 : decode cX10_puts 26 = .ok (.putfield 182, 3) := by decide +kernel
theorem dX10_puts_29 : decode cX10_puts 29 = .ok (.return_, 1) := by decide +kernel
theorem dX10_unwinds_0 : decode cX10_unwinds 0 = .ok (.aload_n 0, 1) := by decide +kernel
theorem dX10_unwinds_1 : decode cX10_unwinds 1 = .ok (.getfield 185, 3) := by decide +kernel
theorem dX10_unwinds_4 : decode cX10_unwinds 4 = .ok (.ifCond .le 75, 3) := by decide +kernel
theorem dX10_unwinds_7 : decode cX10_unwinds 7 = .ok (.aload_n 0, 1) := by decide +kernel
theorem dX10_unwinds_8 : decode cX10_unwinds 8 = .ok (.getfield 91, 3) := by decide +kernel
theorem dX10_unwinds_11 : decode cX10_unwinds 11 = .ok (.aload_n 0, 1) := by decide +kernel
theorem dX10_unwinds_12 : decode cX10_unwinds 12 = .ok (.getfield 185, 3) := by decide +kernel
theorem dX10_unwinds_15 : decode cX10_unwinds 15 = .ok (.iconst 1, 1) := by decide +kernel
theorem dX10_unwinds_16 : decode cX10_unwinds 16 = .ok (.isub, 1) := by decide +kernel
theorem dX10_unwinds_17 : decode cX10_unwinds 17 = .ok (.iaload, 1) := by decide +kernel
theorem dX10_unwinds_18 : decode cX10_unwinds 18 = .ok (.invokestatic 188, 3) := by decide +kernel
theorem dX10_unwinds_21 : decode cX10_unwinds 21 = .ok (.iload_n 1, 1) := by decide +kernel
theorem dX10_unwinds_22 : decode cX10_unwinds 22 = .ok (.if_icmp .lt 57, 3) := by decide +kernel
theorem dX10_unwinds_25 : decode cX10_unwinds 25 = .ok (.aload_n 0, 1) := by decide +kernel
theorem dX10_unwinds_26 : decode cX10_unwinds 26 = .ok (.dup, 1) := by decide +kernel
theorem dX10_unwinds_27 : decode cX10_unwinds 27 = .ok (.getfield 185, 3) := by decide +kernel
theorem dX10_unwinds_30 : decode cX10_unwinds 30 = .ok (.iconst 1, 1) := by decide +kernel
theorem dX10_unwinds_31 : decode cX10_unwinds 31 = .ok (.isub, 1) := by decide +kernel
theorem dX10_unwinds_32 : decode cX10_unwinds 32 = .ok (.putfield 185, 3) := by decide +kernel
theorem dX10_unwinds_35 : decode cX10_unwinds 35 = .ok (.aload_n 0, 1) := by decide +kernel
theorem dX10_unwinds_36 : decode cX10_unwinds 36 = .ok (.getfield 91, 3) := by decide +kernel
theorem dX10_unwinds_39 : decode cX10_unwinds 39 = .ok (.aload_n 0, 1) := by decide +kernel
theorem dX10_unwinds_40 : decode cX10_unwinds 40 = .ok (.getfield 185, 3) := by decide +kernel
theorem dX10_unwinds_43 : decode cX10_unwinds 43 = .ok (.iaload, 1) := by decide +kernel
theorem dX10_unwinds_44 : decode cX10_unwinds 44 = .ok (.istore_n 2, 1) := by decide +kernel
theorem dX10_unwinds_45 : decode cX10_unwinds 45 = .ok (.aload_n 0, 1) := by decide +kernel
theorem dX10_unwinds_46 : decode cX10_unwinds 46 = .ok (.dup, 1) := by decide +kernel
theorem dX10_unwinds_47 : decode cX10_unwinds 47 = .ok (.getfield 192, 3) := by decide +kernel
theorem dX10_unwinds_50 : decode cX10_unwinds 50 = .ok (.iload_n 2, 1) := by decide +kernel
theorem dX10_unwinds_51 : decode cX10_unwinds 51 = .ok (.bipush 13, 2) := by decide +kernel
theorem dX10_unwinds_53 : decode cX10_unwinds 53 = .ok (.if_icmp .eq 9, 3) := by decide +kernel
theorem dX10_unwinds_56 : decode cX10_unwinds 56 = .ok (.iload_n 2, 1) := by decide +kernel
theorem dX10_unwinds_57 : decode cX10_unwinds 57 = .ok (.bipush 19, 2) := by decide +kernel
theorem dX10_unwinds_59 : decode cX10_unwinds 59 = .ok (.if_icmp .ne 7, 3) := by decide +kernel
theorem dX10_unwinds_62 : decode cX10_unwinds 62 = .ok (.iconst 1, 1) := by decide +kernel
theorem dX10_unwinds_63 : decode cX10_unwinds 63 = .ok (.goto 4, 3) := by decide +kernel
theorem dX10_unwinds_66 : decode cX10_unwinds 66 = .ok (.iconst 0, 1) := by decide +kernel
theorem dX10_unwinds_67 : decode cX10_unwinds 67 = .ok (.isub, 1) := by decide +kernel
theorem dX10_unwinds_68 : decode cX10_unwinds 68 = .ok (.putfield 192, 3) := by decide +kernel
theorem dX10_unwinds_71 : decode cX10_unwinds 71 = .ok (.aload_n 0, 1) := by decide +kernel
theorem dX10_unwinds_72 : decode cX10_unwinds 72 = .ok (.iload_n 2, 1) := by decide +kernel
theorem dX10_unwinds_73 : decode cX10_unwinds 73 = .ok (.invokevirtual 195, 3) := by decide +kernel
theorem dX10_unwinds_76 : decode cX10_unwinds 76 = .ok (.goto (-76), 3) := by decide +kernel
theorem dX10_unwinds_79 : decode cX10_unwinds 79 = .ok (.return_, 1) := by decide +kernel
theorem dX10_keeps_0 : decode cX10_keeps 0 = .ok (.aload_n 0, 1) := by decide +kernel
theorem dX10_keeps_1 : decode cX10_keeps 1 = .ok (.getfield 91, 3) := by decide +kernel
theorem dX10_keeps_4 : decode cX10_keeps 4 = .ok (.aload_n 0, 1) := by decide +kernel
theorem dX10_keeps_5 : decode cX10_keeps 5 = .ok (.getfield 185, 3) := by decide +kernel
theorem dX10_keeps_8 : decode cX10_keeps 8 = .ok (.iload_n 1, 1) := by decide +kernel
theorem dX10_keeps_9 : decode cX10_keeps 9 = .ok (.iastore, 1) := by decide +kernel
theorem dX10_keeps_10 : decode cX10_keeps 10 = .ok (.aload_n 0, 1) := by decide +kernel
theorem dX10_keeps_11 : decode cX10_keeps 11 = .ok (.dup, 1) := by decide +kernel
theorem dX10_keeps_12 : decode cX10_keeps 12 = .ok (.getfield 185, 3) := by decide +kernel
theorem dX10_keeps_15 : decode cX10_keeps 15 = .ok (.iconst 1, 1) := by decide +kernel
theorem dX10_keeps_16 : decode cX10_keeps 16 = .ok (.iadd, 1) := by decide +kernel
theorem dX10_keeps_17 : decode cX10_keeps 17 = .ok (.putfield 185, 3) := by decide +kernel
theorem dX10_keeps_20 : decode cX10_keeps 20 = .ok (.return_, 1) := by decide +kernel
theorem dX10_opensOne_0 : decode cX10_opensOne 0 = .ok (.aload_n 0, 1) := by decide +kernel
theorem dX10_opensOne_1 : decode cX10_opensOne 1 = .ok (.getfield 192, 3) := by decide +kernel
theorem dX10_opensOne_4 : decode cX10_opensOne 4 = .ok (.iconst 5, 1) := by decide +kernel
theorem dX10_opensOne_5 : decode cX10_opensOne 5 = .ok (.if_icmp .ne 5, 3) := by decide +kernel
theorem dX10_opensOne_8 : decode cX10_opensOne 8 = .ok (.iconst 0, 1) := by decide +kernel
theorem dX10_opensOne_9 : decode cX10_opensOne 9 = .ok (.ireturn, 1) := by decide +kernel
theorem dX10_opensOne_10 : decode cX10_opensOne 10 = .ok (.aload_n 0, 1) := by decide +kernel
theorem dX10_opensOne_11 : decode cX10_opensOne 11 = .ok (.dup, 1) := by decide +kernel
theorem dX10_opensOne_12 : decode cX10_opensOne 12 = .ok (.getfield 192, 3) := by decide +kernel
theorem dX10_opensOne_15 : decode cX10_opensOne 15 = .ok (.iconst 1, 1) := by decide +kernel
theorem dX10_opensOne_16 : decode cX10_opensOne 16 = .ok (.iadd, 1) := by decide +kernel
theorem dX10_opensOne_17 : decode cX10_opensOne 17 = .ok (.putfield 192, 3) := by decide +kernel
theorem dX10_opensOne_20 : decode cX10_opensOne 20 = .ok (.aload_n 0, 1) := by decide +kernel
theorem dX10_opensOne_21 : decode cX10_opensOne 21 = .ok (.iload_n 1, 1) := by decide +kernel
theorem dX10_opensOne_22 : decode cX10_opensOne 22 = .ok (.invokevirtual 199, 3) := by decide +kernel
theorem dX10_opensOne_25 : decode cX10_opensOne 25 = .ok (.iconst 1, 1) := by decide +kernel
theorem dX10_opensOne_26 : decode cX10_opensOne 26 = .ok (.ireturn, 1) := by decide +kernel
theorem dX10_between_0 : decode cX10_between 0 = .ok (.aload_n 0, 1) := by decide +kernel
theorem dX10_between_1 : decode cX10_between 1 = .ok (.iload_n 1, 1) := by decide +kernel
theorem dX10_between_2 : decode cX10_between 2 = .ok (.invokestatic 188, 3) := by decide +kernel
theorem dX10_between_5 : decode cX10_between 5 = .ok (.iconst 4, 1) := by decide +kernel
theorem dX10_between_6 : decode cX10_between 6 = .ok (.if_icmp .ne 7, 3) := by decide +kernel
theorem dX10_between_9 : decode cX10_between 9 = .ok (.iconst 5, 1) := by decide +kernel
theorem dX10_between_10 : decode cX10_between 10 = .ok (.goto 7, 3) := by decide +kernel
theorem dX10_between_13 : decode cX10_between 13 = .ok (.iload_n 1, 1) := by decide +kernel
theorem dX10_between_14 : decode cX10_between 14 = .ok (.invokestatic 188, 3) := by decide +kernel
theorem dX10_between_17 : decode cX10_between 17 = .ok (.invokevirtual 202, 3) := by decide +kernel
theorem dX10_between_20 : decode cX10_between 20 = .ok (.iload_n 1, 1) := by decide +kernel
theorem dX10_between_21 : decode cX10_between 21 = .ok (.invokestatic 188, 3) := by decide +kernel
theorem dX10_between_24 : decode cX10_between 24 = .ok (.iconst 4, 1) := by decide +kernel
theorem dX10_between_25 : decode cX10_between 25 = .ok (.if_icmp .ne 30, 3) := by decide +kernel
theorem dX10_between_28 : decode cX10_between 28 = .ok (.aload_n 0, 1) := by decide +kernel
theorem dX10_between_29 : decode cX10_between 29 = .ok (.getfield 185, 3) := by decide +kernel
theorem dX10_between_32 : decode cX10_between 32 = .ok (.ifCond .le 23, 3) := by decide +kernel
theorem dX10_between_35 : decode cX10_between 35 = .ok (.aload_n 0, 1) := by decide +kernel
theorem dX10_between_36 : decode cX10_between 36 = .ok (.getfield 91, 3) := by decide +kernel
theorem dX10_between_39 : decode cX10_between 39 = .ok (.aload_n 0, 1) := by decide +kernel
theorem dX10_between_40 : decode cX10_between 40 = .ok (.getfield 185, 3) := by decide +kernel
theorem dX10_between_43 : decode cX10_between 43 = .ok (.iconst 1, 1) := by decide +kernel
theorem dX10_between_44 : decode cX10_between 44 = .ok (.isub, 1) := by decide +kernel
theorem dX10_between_45 : decode cX10_between 45 = .ok (.iaload, 1) := by decide +kernel
theorem dX10_between_46 : decode cX10_between 46 = .ok (.invokestatic 188, 3) := by decide +kernel
theorem dX10_between_49 : decode cX10_between 49 = .ok (.iconst 4, 1) := by decide +kernel
theorem dX10_between_50 : decode cX10_between 50 = .ok (.if_icmp .ne 5, 3) := by decide +kernel
theorem dX10_between_53 : decode cX10_between 53 = .ok (.iconst 0, 1) := by decide +kernel
theorem dX10_between_54 : decode cX10_between 54 = .ok (.ireturn, 1) := by decide +kernel
theorem dX10_between_55 : decode cX10_between 55 = .ok (.aload_n 0, 1) := by decide +kernel
theorem dX10_between_56 : decode cX10_between 56 = .ok (.iload_n 1, 1) := by decide +kernel
theorem dX10_between_57 : decode cX10_between 57 = .ok (.invokevirtual 199, 3) := by decide +kernel
theorem dX10_between_60 : decode cX10_between 60 = .ok (.iconst 1, 1) := by decide +kernel
theorem dX10_between_61 : decode cX10_between 61 = .ok (.ireturn, 1) := by decide +kernel
theorem dX10_signOf_0 : decode cX10_signOf 0 = .ok (.aload_n 0, 1) := by decide +kernel
theorem dX10_signOf_1 : decode cX10_signOf 1 = .ok (.getfield 172, 3) := by decide +kernel
theorem dX10_signOf_4 : decode cX10_signOf 4 = .ok (.iconst 4, 1) := by decide +kernel
theorem dX10_signOf_5 : decode cX10_signOf 5 = .ok (.if_icmp .ne 8, 3) := by decide +kernel
theorem dX10_signOf_8 : decode cX10_signOf 8 = .ok (.bipush 11, 2) := by decide +kernel
theorem dX10_signOf_10 : decode cX10_signOf 10 = .ok (.goto 87, 3) := by decide +kernel
theorem dX10_signOf_13 : decode cX10_signOf 13 = .ok (.aload_n 0, 1) := by decide +kernel
theorem dX10_signOf_14 : decode cX10_signOf 14 = .ok (.getfield 172, 3) := by decide +kernel
theorem dX10_signOf_17 : decode cX10_signOf 17 = .ok (.iconst 5, 1) := by decide +kernel
theorem dX10_signOf_18 : decode cX10_signOf 18 = .ok (.if_icmp .ne 8, 3) := by decide +kernel
theorem dX10_signOf_21 : decode cX10_signOf 21 = .ok (.bipush 12, 2) := by decide +kernel
theorem dX10_signOf_23 : decode cX10_signOf 23 = .ok (.goto 74, 3) := by decide +kernel
theorem dX10_signOf_26 : decode cX10_signOf 26 = .ok (.aload_n 0, 1) := by decide +kernel
theorem dX10_signOf_27 : decode cX10_signOf 27 = .ok (.getfield 172, 3) := by decide +kernel
theorem dX10_signOf_30 : decode cX10_signOf 30 = .ok (.bipush 60, 2) := by decide +kernel
theorem dX10_signOf_32 : decode cX10_signOf 32 = .ok (.if_icmp .ne 8, 3) := by decide +kernel
theorem dX10_signOf_35 : decode cX10_signOf 35 = .ok (.bipush 14, 2) := by decide +kernel
theorem dX10_signOf_37 : decode cX10_signOf 37 = .ok (.goto 60, 3) := by decide +kernel
theorem dX10_signOf_40 : decode cX10_signOf 40 = .ok (.aload_n 0, 1) := by decide +kernel
theorem dX10_signOf_41 : decode cX10_signOf 41 = .ok (.getfield 172, 3) := by decide +kernel
theorem dX10_signOf_44 : decode cX10_signOf 44 = .ok (.bipush 61, 2) := by decide +kernel
theorem dX10_signOf_46 : decode cX10_signOf 46 = .ok (.if_icmp .ne 8, 3) := by decide +kernel
theorem dX10_signOf_49 : decode cX10_signOf 49 = .ok (.bipush 15, 2) := by decide +kernel
theorem dX10_signOf_51 : decode cX10_signOf 51 = .ok (.goto 46, 3) := by decide +kernel
theorem dX10_signOf_54 : decode cX10_signOf 54 = .ok (.aload_n 0, 1) := by decide +kernel
theorem dX10_signOf_55 : decode cX10_signOf 55 = .ok (.getfield 172, 3) := by decide +kernel
theorem dX10_signOf_58 : decode cX10_signOf 58 = .ok (.bipush 43, 2) := by decide +kernel
theorem dX10_signOf_60 : decode cX10_signOf 60 = .ok (.if_icmp .ne 8, 3) := by decide +kernel
theorem dX10_signOf_63 : decode cX10_signOf 63 = .ok (.bipush 16, 2) := by decide +kernel
theorem dX10_signOf_65 : decode cX10_signOf 65 = .ok (.goto 32, 3) := by decide +kernel
theorem dX10_signOf_68 : decode cX10_signOf 68 = .ok (.aload_n 0, 1) := by decide +kernel
theorem dX10_signOf_69 : decode cX10_signOf 69 = .ok (.getfield 172, 3) := by decide +kernel
theorem dX10_signOf_72 : decode cX10_signOf 72 = .ok (.bipush 45, 2) := by decide +kernel
theorem dX10_signOf_74 : decode cX10_signOf 74 = .ok (.if_icmp .ne 8, 3) := by decide +kernel
theorem dX10_signOf_77 : decode cX10_signOf 77 = .ok (.bipush 17, 2) := by decide +kernel
theorem dX10_signOf_79 : decode cX10_signOf 79 = .ok (.goto 18, 3) := by decide +kernel
theorem dX10_signOf_82 : decode cX10_signOf 82 = .ok (.aload_n 0, 1) := by decide +kernel
theorem dX10_signOf_83 : decode cX10_signOf 83 = .ok (.getfield 172, 3) := by decide +kernel
theorem dX10_signOf_86 : decode cX10_signOf 86 = .ok (.bipush 42, 2) := by decide +kernel
theorem dX10_signOf_88 : decode cX10_signOf 88 = .ok (.if_icmp .ne 8, 3) := by decide +kernel
theorem dX10_signOf_91 : decode cX10_signOf 91 = .ok (.bipush 18, 2) := by decide +kernel
theorem dX10_signOf_93 : decode cX10_signOf 93 = .ok (.goto 4, 3) := by decide +kernel
theorem dX10_signOf_96 : decode cX10_signOf 96 = .ok (.iconst (-1), 1) := by decide +kernel
theorem dX10_signOf_97 : decode cX10_signOf 97 = .ok (.ireturn, 1) := by decide +kernel
theorem dX10_eRead_0 : decode cX10_eRead 0 = .ok (.aload_n 0, 1) := by decide +kernel
theorem dX10_eRead_1 : decode cX10_eRead 1 = .ok (.iconst 0, 1) := by decide +kernel
theorem dX10_eRead_2 : decode cX10_eRead 2 = .ok (.putfield 185, 3) := by decide +kernel
theorem dX10_eRead_5 : decode cX10_eRead 5 = .ok (.aload_n 0, 1) := by decide +kernel
theorem dX10_eRead_6 : decode cX10_eRead 6 = .ok (.iconst 0, 1) := by decide +kernel
theorem dX10_eRead_7 : decode cX10_eRead 7 = .ok (.putfield 192, 3) := by decide +kernel
theorem dX10_eRead_10 : decode cX10_eRead 10 = .ok (.iconst 1, 1) := by decide +kernel
theorem dX10_eRead_11 : decode cX10_eRead 11 = .ok (.istore_n 1, 1) := by decide +kernel
theorem dX10_eRead_12 : decode cX10_eRead 12 = .ok (.iconst 1, 1) := by decide +kernel
theorem dX10_eRead_13 : decode cX10_eRead 13 = .ok (.istore_n 2, 1) := by decide +kernel
theorem dX10_eRead_14 : decode cX10_eRead 14 = .ok (.aload_n 0, 1) := by decide +kernel
theorem dX10_eRead_15 : decode cX10_eRead 15 = .ok (.invokevirtual 205, 3) := by decide +kernel
theorem dX10_eRead_18 : decode cX10_eRead 18 = .ok (.iload_n 1, 1) := by decide +kernel
theorem dX10_eRead_19 : decode cX10_eRead 19 = .ok (.ifCond .eq 131, 3) := by decide +kernel
theorem dX10_eRead_22 : decode cX10_eRead 22 = .ok (.aload_n 0, 1) := by decide +kernel
theorem dX10_eRead_23 : decode cX10_eRead 23 = .ok (.getfield 172, 3) := by decide +kernel
theorem dX10_eRead_26 : decode cX10_eRead 26 = .ok (.iconst 1, 1) := by decide +kernel
theorem dX10_eRead_27 : decode cX10_eRead 27 = .ok (.if_icmp .eq 11, 3) := by decide +kernel
theorem dX10_eRead_30 : decode cX10_eRead 30 = .ok (.aload_n 0, 1) := by decide +kernel
theorem dX10_eRead_31 : decode cX10_eRead 31 = .ok (.getfield 172, 3) := by decide +kernel
theorem dX10_eRead_34 : decode cX10_eRead 34 = .ok (.iconst 2, 1) := by decide +kernel
theorem dX10_eRead_35 : decode cX10_eRead 35 = .ok (.if_icmp .ne 40, 3) := by decide +kernel
theorem dX10_eRead_38 : decode cX10_eRead 38 = .ok (.aload_n 0, 1) := by decide +kernel
theorem dX10_eRead_39 : decode cX10_eRead 39 = .ok (.aload_n 0, 1) := by decide +kernel
theorem dX10_eRead_40 : decode cX10_eRead 40 = .ok (.getfield 172, 3) := by decide +kernel
theorem dX10_eRead_43 : decode cX10_eRead 43 = .ok (.iconst 1, 1) := by decide +kernel
theorem dX10_eRead_44 : decode cX10_eRead 44 = .ok (.if_icmp .ne 13, 3) := by decide +kernel
theorem dX10_eRead_47 : decode cX10_eRead 47 = .ok (.ldc 208, 2) := by decide +kernel
theorem dX10_eRead_49 : decode cX10_eRead 49 = .ok (.aload_n 0, 1) := by decide +kernel
theorem dX10_eRead_50 : decode cX10_eRead 50 = .ok (.getfield 175, 3) := by decide +kernel
theorem dX10_eRead_53 : decode cX10_eRead 53 = .ok (.iadd, 1) := by decide +kernel
theorem dX10_eRead_54 : decode cX10_eRead 54 = .ok (.goto 7, 3) := by decide +kernel
theorem dX10_eRead_57 : decode cX10_eRead 57 = .ok (.aload_n 0, 1) := by decide +kernel
theorem dX10_eRead_58 : decode cX10_eRead 58 = .ok (.getfield 175, 3) := by decide +kernel
theorem dX10_eRead_61 : decode cX10_eRead 61 = .ok (.invokevirtual 195, 3) := by decide +kernel
theorem dX10_eRead_64 : decode cX10_eRead 64 = .ok (.aload_n 0, 1) := by decide +kernel
theorem dX10_eRead_65 : decode cX10_eRead 65 = .ok (.bipush 7, 2) := by decide +kernel
theorem dX10_eRead_67 : decode cX10_eRead 67 = .ok (.invokevirtual 202, 3) := by decide +kernel
theorem dX10_eRead_70 : decode cX10_eRead 70 = .ok (.iconst 0, 1) := by decide +kernel
theorem dX10_eRead_71 : decode cX10_eRead 71 = .ok (.istore_n 1, 1) := by decide +kernel
theorem dX10_eRead_72 : decode cX10_eRead 72 = .ok (.goto (-58), 3) := by decide +kernel
theorem dX10_eRead_75 : decode cX10_eRead 75 = .ok (.aload_n 0, 1) := by decide +kernel
theorem dX10_eRead_76 : decode cX10_eRead 76 = .ok (.getfield 172, 3) := by decide +kernel
theorem dX10_eRead_79 : decode cX10_eRead 79 = .ok (.bipush 6, 2) := by decide +kernel
theorem dX10_eRead_81 : decode cX10_eRead 81 = .ok (.if_icmp .ne 18, 3) := by decide +kernel
theorem dX10_eRead_84 : decode cX10_eRead 84 = .ok (.iload_n 2, 1) := by decide +kernel
theorem dX10_eRead_85 : decode cX10_eRead 85 = .ok (.ifCond .eq 14, 3) := by decide +kernel
theorem dX10_eRead_88 : decode cX10_eRead 88 = .ok (.aload_n 0, 1) := by decide +kernel
theorem dX10_eRead_89 : decode cX10_eRead 89 = .ok (.bipush 13, 2) := by decide +kernel
theorem dX10_eRead_91 : decode cX10_eRead 91 = .ok (.invokevirtual 209, 3) := by decide +kernel
theorem dX10_eRead_94 : decode cX10_eRead 94 = .ok (.ifCond .ne (-80), 3) := by decide +kernel
theorem dX10_eRead_97 : decode cX10_eRead 97 = .ok (.iconst 0, 1) := by decide +kernel
theorem dX10_eRead_98 : decode cX10_eRead 98 = .ok (.ireturn, 1) := by decide +kernel
theorem dX10_eRead_99 : decode cX10_eRead 99 = .ok (.aload_n 0, 1) := by decide +kernel
theorem dX10_eRead_100 : decode cX10_eRead 100 = .ok (.getfield 172, 3) := by decide +kernel
theorem dX10_eRead_103 : decode cX10_eRead 103 = .ok (.bipush 45, 2) := by decide +kernel
theorem dX10_eRead_105 : decode cX10_eRead 105 = .ok (.if_icmp .ne 19, 3) := by decide +kernel
theorem dX10_eRead_108 : decode cX10_eRead 108 = .ok (.aload_n 0, 1) := by decide +kernel
theorem dX10_eRead_109 : decode cX10_eRead 109 = .ok (.bipush 19, 2) := by decide +kernel
theorem dX10_eRead_111 : decode cX10_eRead 111 = .ok (.invokevirtual 209, 3) := by decide +kernel
theorem dX10_eRead_114 : decode cX10_eRead 114 = .ok (.ifCond .ne 5, 3) := by decide +kernel
theorem dX10_eRead_117 : decode cX10_eRead 117 = .ok (.iconst 0, 1) := by decide +kernel
theorem dX10_eRead_118 : decode cX10_eRead 118 = .ok (.ireturn, 1) := by decide +kernel
theorem dX10_eRead_119 : decode cX10_eRead 119 = .ok (.iconst 0, 1) := by decide +kernel
theorem dX10_eRead_120 : decode cX10_eRead 120 = .ok (.istore_n 2, 1) := by decide +kernel
theorem dX10_eRead_121 : decode cX10_eRead 121 = .ok (.goto (-107), 3) := by decide +kernel
theorem dX10_eRead_124 : decode cX10_eRead 124 = .ok (.aload_n 0, 1) := by decide +kernel
theorem dX10_eRead_125 : decode cX10_eRead 125 = .ok (.getfield 172, 3) := by decide +kernel
theorem dX10_eRead_128 : decode cX10_eRead 128 = .ok (.bipush 40, 2) := by decide +kernel
theorem dX10_eRead_130 : decode cX10_eRead 130 = .ok (.if_icmp .ne 18, 3) := by decide +kernel
theorem dX10_eRead_133 : decode cX10_eRead 133 = .ok (.aload_n 0, 1) := by decide +kernel
theorem dX10_eRead_134 : decode cX10_eRead 134 = .ok (.iconst 0, 1) := by decide +kernel
theorem dX10_eRead_135 : decode cX10_eRead 135 = .ok (.invokevirtual 209, 3) := by decide +kernel
theorem dX10_eRead_138 : decode cX10_eRead 138 = .ok (.ifCond .ne 5, 3) := by decide +kernel
theorem dX10_eRead_141 : decode cX10_eRead 141 = .ok (.iconst 0, 1) := by decide +kernel
theorem dX10_eRead_142 : decode cX10_eRead 142 = .ok (.ireturn, 1) := by decide +kernel
theorem dX10_eRead_143 : decode cX10_eRead 143 = .ok (.iconst 1, 1) := by decide +kernel
theorem dX10_eRead_144 : decode cX10_eRead 144 = .ok (.istore_n 2, 1) := by decide +kernel
theorem dX10_eRead_145 : decode cX10_eRead 145 = .ok (.goto (-131), 3) := by decide +kernel
theorem dX10_eRead_148 : decode cX10_eRead 148 = .ok (.iconst 0, 1) := by decide +kernel
theorem dX10_eRead_149 : decode cX10_eRead 149 = .ok (.ireturn, 1) := by decide +kernel
theorem dX10_eRead_150 : decode cX10_eRead 150 = .ok (.aload_n 0, 1) := by decide +kernel
theorem dX10_eRead_151 : decode cX10_eRead 151 = .ok (.getfield 172, 3) := by decide +kernel
theorem dX10_eRead_154 : decode cX10_eRead 154 = .ok (.bipush 59, 2) := by decide +kernel
theorem dX10_eRead_156 : decode cX10_eRead 156 = .ok (.if_icmp .ne 21, 3) := by decide +kernel
theorem dX10_eRead_159 : decode cX10_eRead 159 = .ok (.aload_n 0, 1) := by decide +kernel
theorem dX10_eRead_160 : decode cX10_eRead 160 = .ok (.iconst 1, 1) := by decide +kernel
theorem dX10_eRead_161 : decode cX10_eRead 161 = .ok (.invokevirtual 202, 3) := by decide +kernel
theorem dX10_eRead_164 : decode cX10_eRead 164 = .ok (.aload_n 0, 1) := by decide +kernel
theorem dX10_eRead_165 : decode cX10_eRead 165 = .ok (.getfield 185, 3) := by decide +kernel
theorem dX10_eRead_168 : decode cX10_eRead 168 = .ok (.ifCond .ne 7, 3) := by decide +kernel
theorem dX10_eRead_171 : decode cX10_eRead 171 = .ok (.iconst 1, 1) := by decide +kernel
theorem dX10_eRead_172 : decode cX10_eRead 172 = .ok (.goto 4, 3) := by decide +kernel
theorem dX10_eRead_175 : decode cX10_eRead 175 = .ok (.iconst 0, 1) := by decide +kernel
theorem dX10_eRead_176 : decode cX10_eRead 176 = .ok (.ireturn, 1) := by decide +kernel
theorem dX10_eRead_177 : decode cX10_eRead 177 = .ok (.aload_n 0, 1) := by decide +kernel
theorem dX10_eRead_178 : decode cX10_eRead 178 = .ok (.getfield 172, 3) := by decide +kernel
theorem dX10_eRead_181 : decode cX10_eRead 181 = .ok (.bipush 41, 2) := by decide +kernel
theorem dX10_eRead_183 : decode cX10_eRead 183 = .ok (.if_icmp .ne 46, 3) := by decide +kernel
theorem dX10_eRead_186 : decode cX10_eRead 186 = .ok (.aload_n 0, 1) := by decide +kernel
theorem dX10_eRead_187 : decode cX10_eRead 187 = .ok (.iconst 1, 1) := by decide +kernel
theorem dX10_eRead_188 : decode cX10_eRead 188 = .ok (.invokevirtual 202, 3) := by decide +kernel
theorem dX10_eRead_191 : decode cX10_eRead 191 = .ok (.aload_n 0, 1) := by decide +kernel
theorem dX10_eRead_192 : decode cX10_eRead 192 = .ok (.getfield 185, 3) := by decide +kernel
theorem dX10_eRead_195 : decode cX10_eRead 195 = .ok (.ifCond .ne 5, 3) := by decide +kernel
theorem dX10_eRead_198 : decode cX10_eRead 198 = .ok (.iconst 0, 1) := by decide +kernel
theorem dX10_eRead_199 : decode cX10_eRead 199 = .ok (.ireturn, 1) := by decide +kernel
theorem dX10_eRead_200 : decode cX10_eRead 200 = .ok (.aload_n 0, 1) := by decide +kernel
theorem dX10_eRead_201 : decode cX10_eRead 201 = .ok (.dup, 1) := by decide +kernel
theorem dX10_eRead_202 : decode cX10_eRead 202 = .ok (.getfield 185, 3) := by decide +kernel
theorem dX10_eRead_205 : decode cX10_eRead 205 = .ok (.iconst 1, 1) := by decide +kernel
theorem dX10_eRead_206 : decode cX10_eRead 206 = .ok (.isub, 1) := by decide +kernel
theorem dX10_eRead_207 : decode cX10_eRead 207 = .ok (.putfield 185, 3) := by decide +kernel
theorem dX10_eRead_210 : decode cX10_eRead 210 = .ok (.aload_n 0, 1) := by decide +kernel
theorem dX10_eRead_211 : decode cX10_eRead 211 = .ok (.dup, 1) := by decide +kernel
theorem dX10_eRead_212 : decode cX10_eRead 212 = .ok (.getfield 192, 3) := by decide +kernel
theorem dX10_eRead_215 : decode cX10_eRead 215 = .ok (.iconst 1, 1) := by decide +kernel
theorem dX10_eRead_216 : decode cX10_eRead 216 = .ok (.isub, 1) := by decide +kernel
theorem dX10_eRead_217 : decode cX10_eRead 217 = .ok (.putfield 192, 3) := by decide +kernel
theorem dX10_eRead_220 : decode cX10_eRead 220 = .ok (.aload_n 0, 1) := by decide +kernel
theorem dX10_eRead_221 : decode cX10_eRead 221 = .ok (.bipush 7, 2) := by decide +kernel
theorem dX10_eRead_223 : decode cX10_eRead 223 = .ok (.invokevirtual 202, 3) := by decide +kernel
theorem dX10_eRead_226 : decode cX10_eRead 226 = .ok (.goto (-212), 3) := by decide +kernel
theorem dX10_eRead_229 : decode cX10_eRead 229 = .ok (.aload_n 0, 1) := by decide +kernel
theorem dX10_eRead_230 : decode cX10_eRead 230 = .ok (.invokevirtual 212, 3) := by decide +kernel
theorem dX10_eRead_233 : decode cX10_eRead 233 = .ok (.istore_n 3, 1) := by decide +kernel
theorem dX10_eRead_234 : decode cX10_eRead 234 = .ok (.iload_n 3, 1) := by decide +kernel
theorem dX10_eRead_235 : decode cX10_eRead 235 = .ok (.iconst (-1), 1) := by decide +kernel
theorem dX10_eRead_236 : decode cX10_eRead 236 = .ok (.if_icmp .eq 11, 3) := by decide +kernel
theorem dX10_eRead_239 : decode cX10_eRead 239 = .ok (.aload_n 0, 1) := by decide +kernel
theorem dX10_eRead_240 : decode cX10_eRead 240 = .ok (.iload_n 3, 1) := by decide +kernel
theorem dX10_eRead_241 : decode cX10_eRead 241 = .ok (.invokevirtual 215, 3) := by decide +kernel
theorem dX10_eRead_244 : decode cX10_eRead 244 = .ok (.ifCond .ne 5, 3) := by decide +kernel
theorem dX10_eRead_247 : decode cX10_eRead 247 = .ok (.iconst 0, 1) := by decide +kernel
theorem dX10_eRead_248 : decode cX10_eRead 248 = .ok (.ireturn, 1) := by decide +kernel
theorem dX10_eRead_249 : decode cX10_eRead 249 = .ok (.iconst 1, 1) := by decide +kernel
theorem dX10_eRead_250 : decode cX10_eRead 250 = .ok (.istore_n 1, 1) := by decide +kernel
theorem dX10_eRead_251 : decode cX10_eRead 251 = .ok (.iload_n 3, 1) := by decide +kernel
theorem dX10_eRead_252 : decode cX10_eRead 252 = .ok (.bipush 12, 2) := by decide +kernel
theorem dX10_eRead_254 : decode cX10_eRead 254 = .ok (.if_icmp .gt 7, 3) := by decide +kernel
theorem dX10_eRead_257 : decode cX10_eRead 257 = .ok (.iconst 1, 1) := by decide +kernel
theorem dX10_eRead_258 : decode cX10_eRead 258 = .ok (.goto 4, 3) := by decide +kernel
theorem dX10_eRead_261 : decode cX10_eRead 261 = .ok (.iconst 0, 1) := by decide +kernel
theorem dX10_eRead_262 : decode cX10_eRead 262 = .ok (.istore_n 2, 1) := by decide +kernel
theorem dX10_eRead_263 : decode cX10_eRead 263 = .ok (.goto (-249), 3) := by decide +kernel
theorem dX10_text_0 : decode cX10_text 0 = .ok (.aload_n 0, 1) := by decide +kernel
theorem dX10_text_1 : decode cX10_text 1 = .ok (.getfield 157, 3) := by decide +kernel
theorem dX10_text_4 : decode cX10_text 4 = .ok (.bipush 6, 2) := by decide +kernel
theorem dX10_text_6 : decode cX10_text 6 = .ok (.if_icmp .ne 6, 3) := by decide +kernel
theorem dX10_text_9 : decode cX10_text 9 = .ok (.bipush (-4), 2) := by decide +kernel
theorem dX10_text_11 : decode cX10_text 11 = .ok (.ireturn, 1) := by decide +kernel
theorem dX10_text_12 : decode cX10_text 12 = .ok (.aload_n 0, 1) := by decide +kernel
theorem dX10_text_13 : decode cX10_text 13 = .ok (.iconst 0, 1) := by decide +kernel
theorem dX10_text_14 : decode cX10_text 14 = .ok (.putfield 166, 3) := by decide +kernel
theorem dX10_text_17 : decode cX10_text 17 = .ok (.aload_n 0, 1) := by decide +kernel
theorem dX10_text_18 : decode cX10_text 18 = .ok (.iconst 0, 1) := by decide +kernel
theorem dX10_text_19 : decode cX10_text 19 = .ok (.putfield 182, 3) := by decide +kernel
theorem dX10_text_22 : decode cX10_text 22 = .ok (.iconst 1, 1) := by decide +kernel
theorem dX10_text_23 : decode cX10_text 23 = .ok (.istore_n 1, 1) := by decide +kernel
theorem dX10_text_24 : decode cX10_text 24 = .ok (.iconst 0, 1) := by decide +kernel
theorem dX10_text_25 : decode cX10_text 25 = .ok (.istore_n 2, 1) := by decide +kernel
theorem dX10_text_26 : decode cX10_text 26 = .ok (.iload_n 2, 1) := by decide +kernel
theorem dX10_text_27 : decode cX10_text 27 = .ok (.iconst 3, 1) := by decide +kernel
theorem dX10_text_28 : decode cX10_text 28 = .ok (.if_icmp .ge 73, 3) := by decide +kernel
theorem dX10_text_31 : decode cX10_text 31 = .ok (.iload_n 1, 1) := by decide +kernel
theorem dX10_text_32 : decode cX10_text 32 = .ok (.ifCond .eq 69, 3) := by decide +kernel
theorem dX10_text_35 : decode cX10_text 35 = .ok (.aload_n 0, 1) := by decide +kernel
theorem dX10_text_36 : decode cX10_text 36 = .ok (.invokevirtual 205, 3) := by decide +kernel
theorem dX10_text_39 : decode cX10_text 39 = .ok (.aload_n 0, 1) := by decide +kernel
theorem dX10_text_40 : decode cX10_text 40 = .ok (.getfield 172, 3) := by decide +kernel
theorem dX10_text_43 : decode cX10_text 43 = .ok (.iconst 3, 1) := by decide +kernel
theorem dX10_text_44 : decode cX10_text 44 = .ok (.if_icmp .ne 15, 3) := by decide +kernel
theorem dX10_text_47 : decode cX10_text 47 = .ok (.aload_n 0, 1) := by decide +kernel
theorem dX10_text_48 : decode cX10_text 48 = .ok (.getfield 175, 3) := by decide +kernel
theorem dX10_text_51 : decode cX10_text 51 = .ok (.iload_n 2, 1) := by decide +kernel
theorem dX10_text_52 : decode cX10_text 52 = .ok (.if_icmp .ne 7, 3) := by decide +kernel
theorem dX10_text_55 : decode cX10_text 55 = .ok (.iconst 1, 1) := by decide +kernel
theorem dX10_text_56 : decode cX10_text 56 = .ok (.goto 4, 3) := by decide +kernel
theorem dX10_text_59 : decode cX10_text 59 = .ok (.iconst 0, 1) := by decide +kernel
theorem dX10_text_60 : decode cX10_text 60 = .ok (.istore_n 1, 1) := by decide +kernel
theorem dX10_text_61 : decode cX10_text 61 = .ok (.aload_n 0, 1) := by decide +kernel
theorem dX10_text_62 : decode cX10_text 62 = .ok (.getfield 61, 3) := by decide +kernel
theorem dX10_text_65 : decode cX10_text 65 = .ok (.iconst 4, 1) := by decide +kernel
theorem dX10_text_66 : decode cX10_text 66 = .ok (.aload_n 0, 1) := by decide +kernel
theorem dX10_text_67 : decode cX10_text 67 = .ok (.getfield 157, 3) := by decide +kernel
theorem dX10_text_70 : decode cX10_text 70 = .ok (.imul, 1) := by decide +kernel
theorem dX10_text_71 : decode cX10_text 71 = .ok (.iload_n 2, 1) := by decide +kernel
theorem dX10_text_72 : decode cX10_text 72 = .ok (.iadd, 1) := by decide +kernel
theorem dX10_text_73 : decode cX10_text 73 = .ok (.aload_n 0, 1) := by decide +kernel
theorem dX10_text_74 : decode cX10_text 74 = .ok (.getfield 182, 3) := by decide +kernel
theorem dX10_text_77 : decode cX10_text 77 = .ok (.iastore, 1) := by decide +kernel
theorem dX10_text_78 : decode cX10_text 78 = .ok (.iload_n 1, 1) := by decide +kernel
theorem dX10_text_79 : decode cX10_text 79 = .ok (.ifCond .eq 14, 3) := by decide +kernel
theorem dX10_text_82 : decode cX10_text 82 = .ok (.aload_n 0, 1) := by decide +kernel
theorem dX10_text_83 : decode cX10_text 83 = .ok (.invokevirtual 218, 3) := by decide +kernel
theorem dX10_text_86 : decode cX10_text 86 = .ok (.ifCond .eq 7, 3) := by decide +kernel
theorem dX10_text_89 : decode cX10_text 89 = .ok (.iconst 1, 1) := by decide +kernel
theorem dX10_text_90 : decode cX10_text 90 = .ok (.goto 4, 3) := by decide +kernel
theorem dX10_text_93 : decode cX10_text 93 = .ok (.iconst 0, 1) := by decide +kernel
theorem dX10_text_94 : decode cX10_text 94 = .ok (.istore_n 1, 1) := by decide +kernel
theorem dX10_text_95 : decode cX10_text 95 = .ok (.iinc 2 1, 3) := by decide +kernel
theorem dX10_text_98 : decode cX10_text 98 = .ok (.goto (-72), 3) := by decide +kernel
theorem dX10_text_101 : decode cX10_text 101 = .ok (.iload_n 1, 1) := by decide +kernel
theorem dX10_text_102 : decode cX10_text 102 = .ok (.ifCond .eq 20, 3) := by decide +kernel
theorem dX10_text_105 : decode cX10_text 105 = .ok (.aload_n 0, 1) := by decide +kernel
theorem dX10_text_106 : decode cX10_text 106 = .ok (.invokevirtual 205, 3) := by decide +kernel
theorem dX10_text_109 : decode cX10_text 109 = .ok (.aload_n 0, 1) := by decide +kernel
theorem dX10_text_110 : decode cX10_text 110 = .ok (.getfield 172, 3) := by decide +kernel
theorem dX10_text_113 : decode cX10_text 113 = .ok (.ifCond .ne 7, 3) := by decide +kernel
theorem dX10_text_116 : decode cX10_text 116 = .ok (.iconst 1, 1) := by decide +kernel
theorem dX10_text_117 : decode cX10_text 117 = .ok (.goto 4, 3) := by decide +kernel
theorem dX10_text_120 : decode cX10_text 120 = .ok (.iconst 0, 1) := by decide +kernel
theorem dX10_text_121 : decode cX10_text 121 = .ok (.istore_n 1, 1) := by decide +kernel
theorem dX10_text_122 : decode cX10_text 122 = .ok (.aload_n 0, 1) := by decide +kernel
theorem dX10_text_123 : decode cX10_text 123 = .ok (.getfield 61, 3) := by decide +kernel
theorem dX10_text_126 : decode cX10_text 126 = .ok (.iconst 4, 1) := by decide +kernel
theorem dX10_text_127 : decode cX10_text 127 = .ok (.aload_n 0, 1) := by decide +kernel
theorem dX10_text_128 : decode cX10_text 128 = .ok (.getfield 157, 3) := by decide +kernel
theorem dX10_text_131 : decode cX10_text 131 = .ok (.imul, 1) := by decide +kernel
theorem dX10_text_132 : decode cX10_text 132 = .ok (.iconst 3, 1) := by decide +kernel
theorem dX10_text_133 : decode cX10_text 133 = .ok (.iadd, 1) := by decide +kernel
theorem dX10_text_134 : decode cX10_text 134 = .ok (.aload_n 0, 1) := by decide +kernel
theorem dX10_text_135 : decode cX10_text 135 = .ok (.getfield 182, 3) := by decide +kernel
theorem dX10_text_138 : decode cX10_text 138 = .ok (.iastore, 1) := by decide +kernel
theorem dX10_text_139 : decode cX10_text 139 = .ok (.aload_n 0, 1) := by decide +kernel
theorem dX10_text_140 : decode cX10_text 140 = .ok (.iconst 0, 1) := by decide +kernel
theorem dX10_text_141 : decode cX10_text 141 = .ok (.putfield 124, 3) := by decide +kernel
theorem dX10_text_144 : decode cX10_text 144 = .ok (.iload_n 1, 1) := by decide +kernel
theorem dX10_text_145 : decode cX10_text 145 = .ok (.ifCond .ne 11, 3) := by decide +kernel
theorem dX10_text_148 : decode cX10_text 148 = .ok (.bipush (-100), 2) := by decide +kernel
theorem dX10_text_150 : decode cX10_text 150 = .ok (.aload_n 0, 1) := by decide +kernel
theorem dX10_text_151 : decode cX10_text 151 = .ok (.getfield 169, 3) := by decide +kernel
theorem dX10_text_154 : decode cX10_text 154 = .ok (.isub, 1) := by decide +kernel
theorem dX10_text_155 : decode cX10_text 155 = .ok (.ireturn, 1) := by decide +kernel
theorem dX10_text_156 : decode cX10_text 156 = .ok (.aload_n 0, 1) := by decide +kernel
theorem dX10_text_157 : decode cX10_text 157 = .ok (.dup, 1) := by decide +kernel
theorem dX10_text_158 : decode cX10_text 158 = .ok (.getfield 157, 3) := by decide +kernel
theorem dX10_text_161 : decode cX10_text 161 = .ok (.iconst 1, 1) := by decide +kernel
theorem dX10_text_162 : decode cX10_text 162 = .ok (.iadd, 1) := by decide +kernel
theorem dX10_text_163 : decode cX10_text 163 = .ok (.putfield 157, 3) := by decide +kernel
theorem dX10_text_166 : decode cX10_text 166 = .ok (.aload_n 0, 1) := by decide +kernel
theorem dX10_text_167 : decode cX10_text 167 = .ok (.getfield 157, 3) := by decide +kernel
theorem dX10_text_170 : decode cX10_text 170 = .ok (.iconst 1, 1) := by decide +kernel
theorem dX10_text_171 : decode cX10_text 171 = .ok (.isub, 1) := by decide +kernel
theorem dX10_text_172 : decode cX10_text 172 = .ok (.ireturn, 1) := by decide +kernel
theorem dX10_two_0 : decode cX10_two 0 = .ok (.iload_n 0, 1) := by decide +kernel
theorem dX10_two_1 : decode cX10_two 1 = .ok (.tableswitch 101 11 17 #[43, 57, 101, 71, 82, 93, 97], 43) := by decide +kernel
theorem dX10_two_44 : decode cX10_two 44 = .ok (.iload_n 1, 1) := by decide +kernel
theorem dX10_two_45 : decode cX10_two 45 = .ok (.ifCond .ne 7, 3) := by decide +kernel
theorem dX10_two_48 : decode cX10_two 48 = .ok (.iload_n 2, 1) := by decide +kernel
theorem dX10_two_49 : decode cX10_two 49 = .ok (.ifCond .eq 7, 3) := by decide +kernel
theorem dX10_two_52 : decode cX10_two 52 = .ok (.iconst 1, 1) := by decide +kernel
theorem dX10_two_53 : decode cX10_two 53 = .ok (.goto 4, 3) := by decide +kernel
theorem dX10_two_56 : decode cX10_two 56 = .ok (.iconst 0, 1) := by decide +kernel
theorem dX10_two_57 : decode cX10_two 57 = .ok (.ireturn, 1) := by decide +kernel
theorem dX10_two_58 : decode cX10_two 58 = .ok (.iload_n 1, 1) := by decide +kernel
theorem dX10_two_59 : decode cX10_two 59 = .ok (.ifCond .eq 11, 3) := by decide +kernel
theorem dX10_two_62 : decode cX10_two 62 = .ok (.iload_n 2, 1) := by decide +kernel
theorem dX10_two_63 : decode cX10_two 63 = .ok (.ifCond .eq 7, 3) := by decide +kernel
theorem dX10_two_66 : decode cX10_two 66 = .ok (.iconst 1, 1) := by decide +kernel
theorem dX10_two_67 : decode cX10_two 67 = .ok (.goto 4, 3) := by decide +kernel
theorem dX10_two_70 : decode cX10_two 70 = .ok (.iconst 0, 1) := by decide +kernel
theorem dX10_two_71 : decode cX10_two 71 = .ok (.ireturn, 1) := by decide +kernel
theorem dX10_two_72 : decode cX10_two 72 = .ok (.iload_n 1, 1) := by decide +kernel
theorem dX10_two_73 : decode cX10_two 73 = .ok (.iload_n 2, 1) := by decide +kernel
theorem dX10_two_74 : decode cX10_two 74 = .ok (.if_icmp .ge 7, 3) := by decide +kernel
theorem dX10_two_77 : decode cX10_two 77 = .ok (.iconst 1, 1) := by decide +kernel
theorem dX10_two_78 : decode cX10_two 78 = .ok (.goto 4, 3) := by decide +kernel
theorem dX10_two_81 : decode cX10_two 81 = .ok (.iconst 0, 1) := by decide +kernel
theorem dX10_two_82 : decode cX10_two 82 = .ok (.ireturn, 1) := by decide +kernel
theorem dX10_two_83 : decode cX10_two 83 = .ok (.iload_n 1, 1) := by decide +kernel
theorem dX10_two_84 : decode cX10_two 84 = .ok (.iload_n 2, 1) := by decide +kernel
theorem dX10_two_85 : decode cX10_two 85 = .ok (.if_icmp .ne 7, 3) := by decide +kernel
theorem dX10_two_88 : decode cX10_two 88 = .ok (.iconst 1, 1) := by decide +kernel
theorem dX10_two_89 : decode cX10_two 89 = .ok (.goto 4, 3) := by decide +kernel
theorem dX10_two_92 : decode cX10_two 92 = .ok (.iconst 0, 1) := by decide +kernel
theorem dX10_two_93 : decode cX10_two 93 = .ok (.ireturn, 1) := by decide +kernel
theorem dX10_two_94 : decode cX10_two 94 = .ok (.iload_n 1, 1) := by decide +kernel
theorem dX10_two_95 : decode cX10_two 95 = .ok (.iload_n 2, 1) := by decide +kernel
theorem dX10_two_96 : decode cX10_two 96 = .ok (.iadd, 1) := by decide +kernel
theorem dX10_two_97 : decode cX10_two 97 = .ok (.ireturn, 1) := by decide +kernel
theorem dX10_two_98 : decode cX10_two 98 = .ok (.iload_n 1, 1) := by decide +kernel
theorem dX10_two_99 : decode cX10_two 99 = .ok (.iload_n 2, 1) := by decide +kernel
theorem dX10_two_100 : decode cX10_two 100 = .ok (.isub, 1) := by decide +kernel
theorem dX10_two_101 : decode cX10_two 101 = .ok (.ireturn, 1) := by decide +kernel
theorem dX10_two_102 : decode cX10_two 102 = .ok (.iload_n 1, 1) := by decide +kernel
theorem dX10_two_103 : decode cX10_two 103 = .ok (.iload_n 2, 1) := by decide +kernel
theorem dX10_two_104 : decode cX10_two 104 = .ok (.imul, 1) := by decide +kernel
theorem dX10_two_105 : decode cX10_two 105 = .ok (.ireturn, 1) := by decide +kernel
theorem dX10_worth_0 : decode cX10_worth 0 = .ok (.iconst 0, 1) := by decide +kernel
theorem dX10_worth_1 : decode cX10_worth 1 = .ok (.istore_n 2, 1) := by decide +kernel
theorem dX10_worth_2 : decode cX10_worth 2 = .ok (.aload_n 0, 1) := by decide +kernel
theorem dX10_worth_3 : decode cX10_worth 3 = .ok (.getfield 61, 3) := by decide +kernel
theorem dX10_worth_6 : decode cX10_worth 6 = .ok (.iconst 4, 1) := by decide +kernel
theorem dX10_worth_7 : decode cX10_worth 7 = .ok (.aload_n 0, 1) := by decide +kernel
theorem dX10_worth_8 : decode cX10_worth 8 = .ok (.getfield 160, 3) := by decide +kernel
theorem dX10_worth_11 : decode cX10_worth 11 = .ok (.imul, 1) := by decide +kernel
theorem dX10_worth_12 : decode cX10_worth 12 = .ok (.iload_n 1, 1) := by decide +kernel
theorem dX10_worth_13 : decode cX10_worth 13 = .ok (.iadd, 1) := by decide +kernel
theorem dX10_worth_14 : decode cX10_worth 14 = .ok (.iaload, 1) := by decide +kernel
theorem dX10_worth_15 : decode cX10_worth 15 = .ok (.istore_n 3, 1) := by decide +kernel
theorem dX10_worth_16 : decode cX10_worth 16 = .ok (.iload_n 3, 1) := by decide +kernel
theorem dX10_worth_17 : decode cX10_worth 17 = .ok (.aload_n 0, 1) := by decide +kernel
theorem dX10_worth_18 : decode cX10_worth 18 = .ok (.getfield 61, 3) := by decide +kernel
theorem dX10_worth_21 : decode cX10_worth 21 = .ok (.iconst 4, 1) := by decide +kernel
theorem dX10_worth_22 : decode cX10_worth 22 = .ok (.aload_n 0, 1) := by decide +kernel
theorem dX10_worth_23 : decode cX10_worth 23 = .ok (.getfield 160, 3) := by decide +kernel
theorem dX10_worth_26 : decode cX10_worth 26 = .ok (.imul, 1) := by decide +kernel
theorem dX10_worth_27 : decode cX10_worth 27 = .ok (.iload_n 1, 1) := by decide +kernel
theorem dX10_worth_28 : decode cX10_worth 28 = .ok (.iadd, 1) := by decide +kernel
theorem dX10_worth_29 : decode cX10_worth 29 = .ok (.iconst 1, 1) := by decide +kernel
theorem dX10_worth_30 : decode cX10_worth 30 = .ok (.iadd, 1) := by decide +kernel
theorem dX10_worth_31 : decode cX10_worth 31 = .ok (.iaload, 1) := by decide +kernel
theorem dX10_worth_32 : decode cX10_worth 32 = .ok (.if_icmp .ge 165, 3) := by decide +kernel
theorem dX10_worth_35 : decode cX10_worth 35 = .ok (.aload_n 0, 1) := by decide +kernel
theorem dX10_worth_36 : decode cX10_worth 36 = .ok (.getfield 58, 3) := by decide +kernel
theorem dX10_worth_39 : decode cX10_worth 39 = .ok (.sipush 200, 3) := by decide +kernel
theorem dX10_worth_42 : decode cX10_worth 42 = .ok (.aload_n 0, 1) := by decide +kernel
theorem dX10_worth_43 : decode cX10_worth 43 = .ok (.getfield 160, 3) := by decide +kernel
theorem dX10_worth_46 : decode cX10_worth 46 = .ok (.imul, 1) := by decide +kernel
theorem dX10_worth_47 : decode cX10_worth 47 = .ok (.iload_n 3, 1) := by decide +kernel
theorem dX10_worth_48 : decode cX10_worth 48 = .ok (.iadd, 1) := by decide +kernel
theorem dX10_worth_49 : decode cX10_worth 49 = .ok (.iaload, 1) := by decide +kernel
theorem dX10_worth_50 : decode cX10_worth 50 = .ok (.istore 4, 2) := by decide +kernel
theorem dX10_worth_52 : decode cX10_worth 52 = .ok (.iload 4, 2) := by decide +kernel
theorem dX10_worth_54 : decode cX10_worth 54 = .ok (.ldc 208, 2) := by decide +kernel
theorem dX10_worth_56 : decode cX10_worth 56 = .ok (.if_icmp .ge 10, 3) := by decide +kernel
theorem dX10_worth_59 : decode cX10_worth 59 = .ok (.iload 4, 2) := by decide +kernel
theorem dX10_worth_61 : decode cX10_worth 61 = .ok (.bipush 11, 2) := by decide +kernel
theorem dX10_worth_63 : decode cX10_worth 63 = .ok (.if_icmp .ge 37, 3) := by decide +kernel
theorem dX10_worth_66 : decode cX10_worth 66 = .ok (.aload_n 0, 1) := by decide +kernel
theorem dX10_worth_67 : decode cX10_worth 67 = .ok (.getfield 94, 3) := by decide +kernel
theorem dX10_worth_70 : decode cX10_worth 70 = .ok (.iload_n 2, 1) := by decide +kernel
theorem dX10_worth_71 : decode cX10_worth 71 = .ok (.iload 4, 2) := by decide +kernel
theorem dX10_worth_73 : decode cX10_worth 73 = .ok (.bipush 11, 2) := by decide +kernel
theorem dX10_worth_75 : decode cX10_worth 75 = .ok (.if_icmp .ge 13, 3) := by decide +kernel
theorem dX10_worth_78 : decode cX10_worth 78 = .ok (.aload_n 0, 1) := by decide +kernel
theorem dX10_worth_79 : decode cX10_worth 79 = .ok (.getfield 97, 3) := by decide +kernel
theorem dX10_worth_82 : decode cX10_worth 82 = .ok (.iload 4, 2) := by decide +kernel
theorem dX10_worth_84 : decode cX10_worth 84 = .ok (.iaload, 1) := by decide +kernel
theorem dX10_worth_85 : decode cX10_worth 85 = .ok (.goto 8, 3) := by decide +kernel
theorem dX10_worth_88 : decode cX10_worth 88 = .ok (.iload 4, 2) := by decide +kernel
theorem dX10_worth_90 : decode cX10_worth 90 = .ok (.ldc 208, 2) := by decide +kernel
theorem dX10_worth_92 : decode cX10_worth 92 = .ok (.isub, 1) := by decide +kernel
theorem dX10_worth_93 : decode cX10_worth 93 = .ok (.iastore, 1) := by decide +kernel
theorem dX10_worth_94 : decode cX10_worth 94 = .ok (.iinc 2 1, 3) := by decide +kernel
theorem dX10_worth_97 : decode cX10_worth 97 = .ok (.goto 94, 3) := by decide +kernel
theorem dX10_worth_100 : decode cX10_worth 100 = .ok (.iload 4, 2) := by decide +kernel
theorem dX10_worth_102 : decode cX10_worth 102 = .ok (.bipush 13, 2) := by decide +kernel
theorem dX10_worth_104 : decode cX10_worth 104 = .ok (.if_icmp .ne 30, 3) := by decide +kernel
theorem dX10_worth_107 : decode cX10_worth 107 = .ok (.aload_n 0, 1) := by decide +kernel
theorem dX10_worth_108 : decode cX10_worth 108 = .ok (.getfield 94, 3) := by decide +kernel
theorem dX10_worth_111 : decode cX10_worth 111 = .ok (.iload_n 2, 1) := by decide +kernel
theorem dX10_worth_112 : decode cX10_worth 112 = .ok (.iconst 1, 1) := by decide +kernel
theorem dX10_worth_113 : decode cX10_worth 113 = .ok (.isub, 1) := by decide +kernel
theorem dX10_worth_114 : decode cX10_worth 114 = .ok (.aload_n 0, 1) := by decide +kernel
theorem dX10_worth_115 : decode cX10_worth 115 = .ok (.getfield 94, 3) := by decide +kernel
theorem dX10_worth_118 : decode cX10_worth 118 = .ok (.iload_n 2, 1) := by decide +kernel
theorem dX10_worth_119 : decode cX10_worth 119 = .ok (.iconst 1, 1) := by decide +kernel
theorem dX10_worth_120 : decode cX10_worth 120 = .ok (.isub, 1) := by decide +kernel
theorem dX10_worth_121 : decode cX10_worth 121 = .ok (.iaload, 1) := by decide +kernel
theorem dX10_worth_122 : decode cX10_worth 122 = .ok (.ifCond .ne 7, 3) := by decide +kernel
theorem dX10_worth_125 : decode cX10_worth 125 = .ok (.iconst 1, 1) := by decide +kernel
theorem dX10_worth_126 : decode cX10_worth 126 = .ok (.goto 4, 3) := by decide +kernel
theorem dX10_worth_129 : decode cX10_worth 129 = .ok (.iconst 0, 1) := by decide +kernel
theorem dX10_worth_130 : decode cX10_worth 130 = .ok (.iastore, 1) := by decide +kernel
theorem dX10_worth_131 : decode cX10_worth 131 = .ok (.goto 60, 3) := by decide +kernel
theorem dX10_worth_134 : decode cX10_worth 134 = .ok (.iload 4, 2) := by decide +kernel
theorem dX10_worth_136 : decode cX10_worth 136 = .ok (.bipush 19, 2) := by decide +kernel
theorem dX10_worth_138 : decode cX10_worth 138 = .ok (.if_icmp .ne 23, 3) := by decide +kernel
theorem dX10_worth_141 : decode cX10_worth 141 = .ok (.aload_n 0, 1) := by decide +kernel
theorem dX10_worth_142 : decode cX10_worth 142 = .ok (.getfield 94, 3) := by decide +kernel
theorem dX10_worth_145 : decode cX10_worth 145 = .ok (.iload_n 2, 1) := by decide +kernel
theorem dX10_worth_146 : decode cX10_worth 146 = .ok (.iconst 1, 1) := by decide +kernel
theorem dX10_worth_147 : decode cX10_worth 147 = .ok (.isub, 1) := by decide +kernel
theorem dX10_worth_148 : decode cX10_worth 148 = .ok (.aload_n 0, 1) := by decide +kernel
theorem dX10_worth_149 : decode cX10_worth 149 = .ok (.getfield 94, 3) := by decide +kernel
theorem dX10_worth_152 : decode cX10_worth 152 = .ok (.iload_n 2, 1) := by decide +kernel
theorem dX10_worth_153 : decode cX10_worth 153 = .ok (.iconst 1, 1) := by decide +kernel
theorem dX10_worth_154 : decode cX10_worth 154 = .ok (.isub, 1) := by decide +kernel
theorem dX10_worth_155 : decode cX10_worth 155 = .ok (.iaload, 1) := by decide +kernel
theorem dX10_worth_156 : decode cX10_worth 156 = .ok (.ineg, 1) := by decide +kernel
theorem dX10_worth_157 : decode cX10_worth 157 = .ok (.iastore, 1) := by decide +kernel
theorem dX10_worth_158 : decode cX10_worth 158 = .ok (.goto 33, 3) := by decide +kernel
theorem dX10_worth_161 : decode cX10_worth 161 = .ok (.iinc 2 (-1), 3) := by decide +kernel
theorem dX10_worth_164 : decode cX10_worth 164 = .ok (.aload_n 0, 1) := by decide +kernel
theorem dX10_worth_165 : decode cX10_worth 165 = .ok (.getfield 94, 3) := by decide +kernel
theorem dX10_worth_168 : decode cX10_worth 168 = .ok (.iload_n 2, 1) := by decide +kernel
theorem dX10_worth_169 : decode cX10_worth 169 = .ok (.iconst 1, 1) := by decide +kernel
theorem dX10_worth_170 : decode cX10_worth 170 = .ok (.isub, 1) := by decide +kernel
theorem dX10_worth_171 : decode cX10_worth 171 = .ok (.iload 4, 2) := by decide +kernel
theorem dX10_worth_173 : decode cX10_worth 173 = .ok (.aload_n 0, 1) := by decide +kernel
theorem dX10_worth_174 : decode cX10_worth 174 = .ok (.getfield 94, 3) := by decide +kernel
theorem dX10_worth_177 : decode cX10_worth 177 = .ok (.iload_n 2, 1) := by decide +kernel
theorem dX10_worth_178 : decode cX10_worth 178 = .ok (.iconst 1, 1) := by decide +kernel
theorem dX10_worth_179 : decode cX10_worth 179 = .ok (.isub, 1) := by decide +kernel
theorem dX10_worth_180 : decode cX10_worth 180 = .ok (.iaload, 1) := by decide +kernel
theorem dX10_worth_181 : decode cX10_worth 181 = .ok (.aload_n 0, 1) := by decide +kernel
theorem dX10_worth_182 : decode cX10_worth 182 = .ok (.getfield 94, 3) := by decide +kernel
theorem dX10_worth_185 : decode cX10_worth 185 = .ok (.iload_n 2, 1) := by decide +kernel
theorem dX10_worth_186 : decode cX10_worth 186 = .ok (.iaload, 1) := by decide +kernel
theorem dX10_worth_187 : decode cX10_worth 187 = .ok (.invokestatic 222, 3) := by decide +kernel
theorem dX10_worth_190 : decode cX10_worth 190 = .ok (.iastore, 1) := by decide +kernel
theorem dX10_worth_191 : decode cX10_worth 191 = .ok (.iinc 3 1, 3) := by decide +kernel
theorem dX10_worth_194 : decode cX10_worth 194 = .ok (.goto (-178), 3) := by decide +kernel
theorem dX10_worth_197 : decode cX10_worth 197 = .ok (.aload_n 0, 1) := by decide +kernel
theorem dX10_worth_198 : decode cX10_worth 198 = .ok (.getfield 94, 3) := by decide +kernel
theorem dX10_worth_201 : decode cX10_worth 201 = .ok (.iconst 0, 1) := by decide +kernel
theorem dX10_worth_202 : decode cX10_worth 202 = .ok (.iaload, 1) := by decide +kernel
theorem dX10_worth_203 : decode cX10_worth 203 = .ok (.iconst 0, 1) := by decide +kernel
theorem dX10_worth_204 : decode cX10_worth 204 = .ok (.iload_n 1, 1) := by decide +kernel
theorem dX10_worth_205 : decode cX10_worth 205 = .ok (.iconst 2, 1) := by decide +kernel
theorem dX10_worth_206 : decode cX10_worth 206 = .ok (.if_icmp .ne 8, 3) := by decide +kernel
theorem dX10_worth_209 : decode cX10_worth 209 = .ok (.bipush 100, 2) := by decide +kernel
theorem dX10_worth_211 : decode cX10_worth 211 = .ok (.goto 6, 3) := by decide +kernel
theorem dX10_worth_214 : decode cX10_worth 214 = .ok (.sipush 999, 3) := by decide +kernel
theorem dX10_worth_217 : decode cX10_worth 217 = .ok (.invokestatic 226, 3) := by decide +kernel
theorem dX10_worth_220 : decode cX10_worth 220 = .ok (.ireturn, 1) := by decide +kernel
theorem dX10_force_0 : decode cX10_force 0 = .ok (.iload_n 1, 1) := by decide +kernel
theorem dX10_force_1 : decode cX10_force 1 = .ok (.iconst 0, 1) := by decide +kernel
theorem dX10_force_2 : decode cX10_force 2 = .ok (.aload_n 0, 1) := by decide +kernel
theorem dX10_force_3 : decode cX10_force 3 = .ok (.getfield 157, 3) := by decide +kernel
theorem dX10_force_6 : decode cX10_force 6 = .ok (.iconst 1, 1) := by decide +kernel
theorem dX10_force_7 : decode cX10_force 7 = .ok (.isub, 1) := by decide +kernel
theorem dX10_force_8 : decode cX10_force 8 = .ok (.invokestatic 132, 3) := by decide +kernel
theorem dX10_force_11 : decode cX10_force 11 = .ok (.ifCond .ne 6, 3) := by decide +kernel
theorem dX10_force_14 : decode cX10_force 14 = .ok (.bipush (-2), 2) := by decide +kernel
theorem dX10_force_16 : decode cX10_force 16 = .ok (.ireturn, 1) := by decide +kernel
theorem dX10_force_17 : decode cX10_force 17 = .ok (.aload_n 0, 1) := by decide +kernel
theorem dX10_force_18 : decode cX10_force 18 = .ok (.getfield 160, 3) := by decide +kernel
theorem dX10_force_21 : decode cX10_force 21 = .ok (.istore_n 2, 1) := by decide +kernel
theorem dX10_force_22 : decode cX10_force 22 = .ok (.aload_n 0, 1) := by decide +kernel
theorem dX10_force_23 : decode cX10_force 23 = .ok (.iload_n 1, 1) := by decide +kernel
theorem dX10_force_24 : decode cX10_force 24 = .ok (.putfield 160, 3) := by decide +kernel
theorem dX10_force_27 : decode cX10_force 27 = .ok (.iload_n 2, 1) := by decide +kernel
theorem dX10_force_28 : decode cX10_force 28 = .ok (.ireturn, 1) := by decide +kernel
theorem dX10_names_0 : decode cX10_names 0 = .ok (.aload_n 0, 1) := by decide +kernel
theorem dX10_names_1 : decode cX10_names 1 = .ok (.getfield 97, 3) := by decide +kernel
theorem dX10_names_4 : decode cX10_names 4 = .ok (.iconst 0, 1) := by decide +kernel
theorem dX10_names_5 : decode cX10_names 5 = .ok (.iload_n 1, 1) := by decide +kernel
theorem dX10_names_6 : decode cX10_names 6 = .ok (.iastore, 1) := by decide +kernel
theorem dX10_names_7 : decode cX10_names 7 = .ok (.aload_n 0, 1) := by decide +kernel
theorem dX10_names_8 : decode cX10_names 8 = .ok (.getfield 97, 3) := by decide +kernel
theorem dX10_names_11 : decode cX10_names 11 = .ok (.iconst 1, 1) := by decide +kernel
theorem dX10_names_12 : decode cX10_names 12 = .ok (.iload_n 2, 1) := by decide +kernel
theorem dX10_names_13 : decode cX10_names 13 = .ok (.iastore, 1) := by decide +kernel
theorem dX10_names_14 : decode cX10_names 14 = .ok (.aload_n 0, 1) := by decide +kernel
theorem dX10_names_15 : decode cX10_names 15 = .ok (.getfield 97, 3) := by decide +kernel
theorem dX10_names_18 : decode cX10_names 18 = .ok (.iconst 2, 1) := by decide +kernel
theorem dX10_names_19 : decode cX10_names 19 = .ok (.iload_n 3, 1) := by decide +kernel
theorem dX10_names_20 : decode cX10_names 20 = .ok (.iastore, 1) := by decide +kernel
theorem dX10_names_21 : decode cX10_names 21 = .ok (.aload_n 0, 1) := by decide +kernel
theorem dX10_names_22 : decode cX10_names 22 = .ok (.getfield 97, 3) := by decide +kernel
theorem dX10_names_25 : decode cX10_names 25 = .ok (.iconst 3, 1) := by decide +kernel
theorem dX10_names_26 : decode cX10_names 26 = .ok (.iload 4, 2) := by decide +kernel
theorem dX10_names_28 : decode cX10_names 28 = .ok (.iastore, 1) := by decide +kernel
theorem dX10_names_29 : decode cX10_names 29 = .ok (.aload_n 0, 1) := by decide +kernel
theorem dX10_names_30 : decode cX10_names 30 = .ok (.getfield 97, 3) := by decide +kernel
theorem dX10_names_33 : decode cX10_names 33 = .ok (.iconst 4, 1) := by decide +kernel
theorem dX10_names_34 : decode cX10_names 34 = .ok (.iload 5, 2) := by decide +kernel
theorem dX10_names_36 : decode cX10_names 36 = .ok (.iastore, 1) := by decide +kernel
theorem dX10_names_37 : decode cX10_names 37 = .ok (.aload_n 0, 1) := by decide +kernel
theorem dX10_names_38 : decode cX10_names 38 = .ok (.getfield 97, 3) := by decide +kernel
theorem dX10_names_41 : decode cX10_names 41 = .ok (.iconst 5, 1) := by decide +kernel
theorem dX10_names_42 : decode cX10_names 42 = .ok (.iload 6, 2) := by decide +kernel
theorem dX10_names_44 : decode cX10_names 44 = .ok (.iastore, 1) := by decide +kernel
theorem dX10_names_45 : decode cX10_names 45 = .ok (.return_, 1) := by decide +kernel
theorem dX10_asks_0 : decode cX10_asks 0 = .ok (.iload_n 1, 1) := by decide +kernel
theorem dX10_asks_1 : decode cX10_asks 1 = .ok (.iconst 0, 1) := by decide +kernel
theorem dX10_asks_2 : decode cX10_asks 2 = .ok (.iconst 2, 1) := by decide +kernel
theorem dX10_asks_3 : decode cX10_asks 3 = .ok (.invokestatic 132, 3) := by decide +kernel
theorem dX10_asks_6 : decode cX10_asks 6 = .ok (.ifCond .eq 36, 3) := by decide +kernel
theorem dX10_asks_9 : decode cX10_asks 9 = .ok (.iload_n 2, 1) := by decide +kernel
theorem dX10_asks_10 : decode cX10_asks 10 = .ok (.iconst 0, 1) := by decide +kernel
theorem dX10_asks_11 : decode cX10_asks 11 = .ok (.sipush 9999, 3) := by decide +kernel
theorem dX10_asks_14 : decode cX10_asks 14 = .ok (.invokestatic 132, 3) := by decide +kernel
theorem dX10_asks_17 : decode cX10_asks 17 = .ok (.ifCond .eq 25, 3) := by decide +kernel
theorem dX10_asks_20 : decode cX10_asks 20 = .ok (.iload_n 3, 1) := by decide +kernel
theorem dX10_asks_21 : decode cX10_asks 21 = .ok (.iconst 0, 1) := by decide +kernel
theorem dX10_asks_22 : decode cX10_asks 22 = .ok (.sipush 9999, 3) := by decide +kernel
theorem dX10_asks_25 : decode cX10_asks 25 = .ok (.invokestatic 132, 3) := by decide +kernel
theorem dX10_asks_28 : decode cX10_asks 28 = .ok (.ifCond .eq 14, 3) := by decide +kernel
theorem dX10_asks_31 : decode cX10_asks 31 = .ok (.iload 4, 2) := by decide +kernel
theorem dX10_asks_33 : decode cX10_asks 33 = .ok (.iconst 0, 1) := by decide +kernel
theorem dX10_asks_34 : decode cX10_asks 34 = .ok (.bipush 39, 2) := by decide +kernel
theorem dX10_asks_36 : decode cX10_asks 36 = .ok (.invokestatic 132, 3) := by decide +kernel
theorem dX10_asks_39 : decode cX10_asks 39 = .ok (.ifCond .ne 6, 3) := by decide +kernel
theorem dX10_asks_42 : decode cX10_asks 42 = .ok (.bipush (-2), 2) := by decide +kernel
theorem dX10_asks_44 : decode cX10_asks 44 = .ok (.ireturn, 1) := by decide +kernel
theorem dX10_asks_45 : decode cX10_asks 45 = .ok (.aload_n 0, 1) := by decide +kernel
theorem dX10_asks_46 : decode cX10_asks 46 = .ok (.iload_n 2, 1) := by decide +kernel
theorem dX10_asks_47 : decode cX10_asks 47 = .ok (.bipush 100, 2) := by decide +kernel
theorem dX10_asks_49 : decode cX10_asks 49 = .ok (.idiv, 1) := by decide +kernel
theorem dX10_asks_50 : decode cX10_asks 50 = .ok (.iload_n 2, 1) := by decide +kernel
theorem dX10_asks_51 : decode cX10_asks 51 = .ok (.bipush 100, 2) := by decide +kernel
theorem dX10_asks_53 : decode cX10_asks 53 = .ok (.irem, 1) := by decide +kernel
theorem dX10_asks_54 : decode cX10_asks 54 = .ok (.iload_n 3, 1) := by decide +kernel
theorem dX10_asks_55 : decode cX10_asks 55 = .ok (.bipush 100, 2) := by decide +kernel
theorem dX10_asks_57 : decode cX10_asks 57 = .ok (.idiv, 1) := by decide +kernel
theorem dX10_asks_58 : decode cX10_asks 58 = .ok (.iload_n 3, 1) := by decide +kernel
theorem dX10_asks_59 : decode cX10_asks 59 = .ok (.bipush 100, 2) := by decide +kernel
theorem dX10_asks_61 : decode cX10_asks 61 = .ok (.irem, 1) := by decide +kernel
theorem dX10_asks_62 : decode cX10_asks 62 = .ok (.iload 4, 2) := by decide +kernel
theorem dX10_asks_64 : decode cX10_asks 64 = .ok (.bipush 10, 2) := by decide +kernel
theorem dX10_asks_66 : decode cX10_asks 66 = .ok (.idiv, 1) := by decide +kernel
theorem dX10_asks_67 : decode cX10_asks 67 = .ok (.iload 4, 2) := by decide +kernel
theorem dX10_asks_69 : decode cX10_asks 69 = .ok (.bipush 10, 2) := by decide +kernel
theorem dX10_asks_71 : decode cX10_asks 71 = .ok (.irem, 1) := by decide +kernel
theorem dX10_asks_72 : decode cX10_asks 72 = .ok (.invokevirtual 229, 3) := by decide +kernel
theorem dX10_asks_75 : decode cX10_asks 75 = .ok (.aload_n 0, 1) := by decide +kernel
theorem dX10_asks_76 : decode cX10_asks 76 = .ok (.iload_n 1, 1) := by decide +kernel
theorem dX10_asks_77 : decode cX10_asks 77 = .ok (.invokevirtual 233, 3) := by decide +kernel
theorem dX10_asks_80 : decode cX10_asks 80 = .ok (.ireturn, 1) := by decide +kernel
theorem dX10_boat_0 : decode cX10_boat 0 = .ok (.iload_n 1, 1) := by decide +kernel
theorem dX10_boat_1 : decode cX10_boat 1 = .ok (.iconst 0, 1) := by decide +kernel
theorem dX10_boat_2 : decode cX10_boat 2 = .ok (.iconst 5, 1) := by decide +kernel
theorem dX10_boat_3 : decode cX10_boat 3 = .ok (.invokestatic 132, 3) := by decide +kernel
theorem dX10_boat_6 : decode cX10_boat 6 = .ok (.ifCond .eq 32, 3) := by decide +kernel
theorem dX10_boat_9 : decode cX10_boat 9 = .ok (.iload_n 2, 1) := by decide +kernel
theorem dX10_boat_10 : decode cX10_boat 10 = .ok (.iconst 0, 1) := by decide +kernel
theorem dX10_boat_11 : decode cX10_boat 11 = .ok (.sipush 999, 3) := by decide +kernel
theorem dX10_boat_14 : decode cX10_boat 14 = .ok (.invokestatic 132, 3) := by decide +kernel
theorem dX10_boat_17 : decode cX10_boat 17 = .ok (.ifCond .eq 21, 3) := by decide +kernel
theorem dX10_boat_20 : decode cX10_boat 20 = .ok (.iload_n 3, 1) := by decide +kernel
theorem dX10_boat_21 : decode cX10_boat 21 = .ok (.invokestatic 142, 3) := by decide +kernel
theorem dX10_boat_24 : decode cX10_boat 24 = .ok (.ifCond .eq 14, 3) := by decide +kernel
theorem dX10_boat_27 : decode cX10_boat 27 = .ok (.iload 4, 2) := by decide +kernel
theorem dX10_boat_29 : decode cX10_boat 29 = .ok (.iconst 1, 1) := by decide +kernel
theorem dX10_boat_30 : decode cX10_boat 30 = .ok (.bipush 40, 2) := by decide +kernel
theorem dX10_boat_32 : decode cX10_boat 32 = .ok (.invokestatic 132, 3) := by decide +kernel
theorem dX10_boat_35 : decode cX10_boat 35 = .ok (.ifCond .ne 6, 3) := by decide +kernel
theorem dX10_boat_38 : decode cX10_boat 38 = .ok (.bipush (-2), 2) := by decide +kernel
theorem dX10_boat_40 : decode cX10_boat 40 = .ok (.ireturn, 1) := by decide +kernel
theorem dX10_boat_41 : decode cX10_boat 41 = .ok (.aload_n 0, 1) := by decide +kernel
theorem dX10_boat_42 : decode cX10_boat 42 = .ok (.getfield 136, 3) := by decide +kernel
theorem dX10_boat_45 : decode cX10_boat 45 = .ok (.bipush 6, 2) := by decide +kernel
theorem dX10_boat_47 : decode cX10_boat 47 = .ok (.if_icmp .ne 6, 3) := by decide +kernel
theorem dX10_boat_50 : decode cX10_boat 50 = .ok (.bipush (-4), 2) := by decide +kernel
theorem dX10_boat_52 : decode cX10_boat 52 = .ok (.ireturn, 1) := by decide +kernel
theorem dX10_boat_53 : decode cX10_boat 53 = .ok (.aload_n 0, 1) := by decide +kernel
theorem dX10_boat_54 : decode cX10_boat 54 = .ok (.getfield 31, 3) := by decide +kernel
theorem dX10_boat_57 : decode cX10_boat 57 = .ok (.aload_n 0, 1) := by decide +kernel
theorem dX10_boat_58 : decode cX10_boat 58 = .ok (.getfield 136, 3) := by decide +kernel
theorem dX10_boat_61 : decode cX10_boat 61 = .ok (.iload_n 1, 1) := by decide +kernel
theorem dX10_boat_62 : decode cX10_boat 62 = .ok (.iastore, 1) := by decide +kernel
theorem dX10_boat_63 : decode cX10_boat 63 = .ok (.aload_n 0, 1) := by decide +kernel
theorem dX10_boat_64 : decode cX10_boat 64 = .ok (.getfield 34, 3) := by decide +kernel
theorem dX10_boat_67 : decode cX10_boat 67 = .ok (.aload_n 0, 1) := by decide +kernel
theorem dX10_boat_68 : decode cX10_boat 68 = .ok (.getfield 136, 3) := by decide +kernel
theorem dX10_boat_71 : decode cX10_boat 71 = .ok (.iload_n 2, 1) := by decide +kernel
theorem dX10_boat_72 : decode cX10_boat 72 = .ok (.bipush 100, 2) := by decide +kernel
theorem dX10_boat_74 : decode cX10_boat 74 = .ok (.idiv, 1) := by decide +kernel
theorem dX10_boat_75 : decode cX10_boat 75 = .ok (.iastore, 1) := by decide +kernel
theorem dX10_boat_76 : decode cX10_boat 76 = .ok (.aload_n 0, 1) := by decide +kernel
theorem dX10_boat_77 : decode cX10_boat 77 = .ok (.getfield 37, 3) := by decide +kernel
theorem dX10_boat_80 : decode cX10_boat 80 = .ok (.aload_n 0, 1) := by decide +kernel
theorem dX10_boat_81 : decode cX10_boat 81 = .ok (.getfield 136, 3) := by decide +kernel
theorem dX10_boat_84 : decode cX10_boat 84 = .ok (.iload_n 2, 1) := by decide +kernel
theorem dX10_boat_85 : decode cX10_boat 85 = .ok (.bipush 10, 2) := by decide +kernel
theorem dX10_boat_87 : decode cX10_boat 87 = .ok (.idiv, 1) := by decide +kernel
theorem dX10_boat_88 : decode cX10_boat 88 = .ok (.bipush 10, 2) := by decide +kernel
theorem dX10_boat_90 : decode cX10_boat 90 = .ok (.irem, 1) := by decide +kernel
theorem dX10_boat_91 : decode cX10_boat 91 = .ok (.iastore, 1) := by decide +kernel
theorem dX10_boat_92 : decode cX10_boat 92 = .ok (.aload_n 0, 1) := by decide +kernel
theorem dX10_boat_93 : decode cX10_boat 93 = .ok (.getfield 40, 3) := by decide +kernel
theorem dX10_boat_96 : decode cX10_boat 96 = .ok (.aload_n 0, 1) := by decide +kernel
theorem dX10_boat_97 : decode cX10_boat 97 = .ok (.getfield 136, 3) := by decide +kernel
theorem dX10_boat_100 : decode cX10_boat 100 = .ok (.iload_n 2, 1) := by decide +kernel
theorem dX10_boat_101 : decode cX10_boat 101 = .ok (.bipush 10, 2) := by decide +kernel
theorem dX10_boat_103 : decode cX10_boat 103 = .ok (.irem, 1) := by decide +kernel
theorem dX10_boat_104 : decode cX10_boat 104 = .ok (.iastore, 1) := by decide +kernel
theorem dX10_boat_105 : decode cX10_boat 105 = .ok (.aload_n 0, 1) := by decide +kernel
theorem dX10_boat_106 : decode cX10_boat 106 = .ok (.getfield 43, 3) := by decide +kernel
theorem dX10_boat_109 : decode cX10_boat 109 = .ok (.aload_n 0, 1) := by decide +kernel
theorem dX10_boat_110 : decode cX10_boat 110 = .ok (.getfield 136, 3) := by decide +kernel
theorem dX10_boat_113 : decode cX10_boat 113 = .ok (.iload_n 3, 1) := by decide +kernel
theorem dX10_boat_114 : decode cX10_boat 114 = .ok (.iastore, 1) := by decide +kernel
theorem dX10_boat_115 : decode cX10_boat 115 = .ok (.aload_n 0, 1) := by decide +kernel
theorem dX10_boat_116 : decode cX10_boat 116 = .ok (.getfield 46, 3) := by decide +kernel
theorem dX10_boat_119 : decode cX10_boat 119 = .ok (.aload_n 0, 1) := by decide +kernel
theorem dX10_boat_120 : decode cX10_boat 120 = .ok (.getfield 136, 3) := by decide +kernel
theorem dX10_boat_123 : decode cX10_boat 123 = .ok (.iload 4, 2) := by decide +kernel
theorem dX10_boat_125 : decode cX10_boat 125 = .ok (.iastore, 1) := by decide +kernel
theorem dX10_boat_126 : decode cX10_boat 126 = .ok (.aload_n 0, 1) := by decide +kernel
theorem dX10_boat_127 : decode cX10_boat 127 = .ok (.dup, 1) := by decide +kernel
theorem dX10_boat_128 : decode cX10_boat 128 = .ok (.getfield 136, 3) := by decide +kernel
theorem dX10_boat_131 : decode cX10_boat 131 = .ok (.iconst 1, 1) := by decide +kernel
theorem dX10_boat_132 : decode cX10_boat 132 = .ok (.iadd, 1) := by decide +kernel
theorem dX10_boat_133 : decode cX10_boat 133 = .ok (.putfield 136, 3) := by decide +kernel
theorem dX10_boat_136 : decode cX10_boat 136 = .ok (.aload_n 0, 1) := by decide +kernel
theorem dX10_boat_137 : decode cX10_boat 137 = .ok (.getfield 136, 3) := by decide +kernel
theorem dX10_boat_140 : decode cX10_boat 140 = .ok (.iconst 1, 1) := by decide +kernel
theorem dX10_boat_141 : decode cX10_boat 141 = .ok (.isub, 1) := by decide +kernel
theorem dX10_boat_142 : decode cX10_boat 142 = .ok (.ireturn, 1) := by decide +kernel
theorem dX10_let_0 : decode cX10_let 0 = .ok (.aload_n 0, 1) := by decide +kernel
theorem dX10_let_1 : decode cX10_let 1 = .ok (.iload_n 1, 1) := by decide +kernel
theorem dX10_let_2 : decode cX10_let 2 = .ok (.invokevirtual 236, 3) := by decide +kernel
theorem dX10_let_5 : decode cX10_let 5 = .ok (.ifCond .ne 6, 3) := by decide +kernel
theorem dX10_let_8 : decode cX10_let 8 = .ok (.bipush (-5), 2) := by decide +kernel
theorem dX10_let_10 : decode cX10_let 10 = .ok (.ireturn, 1) := by decide +kernel
theorem dX10_let_11 : decode cX10_let 11 = .ok (.iload_n 2, 1) := by decide +kernel
theorem dX10_let_12 : decode cX10_let 12 = .ok (.ifCond .ne 10, 3) := by decide +kernel
theorem dX10_let_15 : decode cX10_let 15 = .ok (.iload_n 3, 1) := by decide +kernel
theorem dX10_let_16 : decode cX10_let 16 = .ok (.invokestatic 142, 3) := by decide +kernel
theorem dX10_let_19 : decode cX10_let 19 = .ok (.goto 23, 3) := by decide +kernel
theorem dX10_let_22 : decode cX10_let 22 = .ok (.iload_n 2, 1) := by decide +kernel
theorem dX10_let_23 : decode cX10_let 23 = .ok (.iconst 1, 1) := by decide +kernel
theorem dX10_let_24 : decode cX10_let 24 = .ok (.if_icmp .ne 17, 3) := by decide +kernel
theorem dX10_let_27 : decode cX10_let 27 = .ok (.iload_n 3, 1) := by decide +kernel
theorem dX10_let_28 : decode cX10_let 28 = .ok (.iconst 1, 1) := by decide +kernel
theorem dX10_let_29 : decode cX10_let 29 = .ok (.bipush 40, 2) := by decide +kernel
theorem dX10_let_31 : decode cX10_let 31 = .ok (.invokestatic 132, 3) := by decide +kernel
theorem dX10_let_34 : decode cX10_let 34 = .ok (.ifCond .eq 7, 3) := by decide +kernel
theorem dX10_let_37 : decode cX10_let 37 = .ok (.iconst 1, 1) := by decide +kernel
theorem dX10_let_38 : decode cX10_let 38 = .ok (.goto 4, 3) := by decide +kernel
theorem dX10_let_41 : decode cX10_let 41 = .ok (.iconst 0, 1) := by decide +kernel
theorem dX10_let_42 : decode cX10_let 42 = .ok (.istore 4, 2) := by decide +kernel
theorem dX10_let_44 : decode cX10_let 44 = .ok (.iload 4, 2) := by decide +kernel
theorem dX10_let_46 : decode cX10_let 46 = .ok (.ifCond .ne 6, 3) := by decide +kernel
theorem dX10_let_49 : decode cX10_let 49 = .ok (.bipush (-7), 2) := by decide +kernel
theorem dX10_let_51 : decode cX10_let 51 = .ok (.ireturn, 1) := by decide +kernel
theorem dX10_let_52 : decode cX10_let 52 = .ok (.iload_n 2, 1) := by decide +kernel
theorem dX10_let_53 : decode cX10_let 53 = .ok (.ifCond .ne 12, 3) := by decide +kernel
theorem dX10_let_56 : decode cX10_let 56 = .ok (.aload_n 0, 1) := by decide +kernel
theorem dX10_let_57 : decode cX10_let 57 = .ok (.getfield 43, 3) := by decide +kernel
theorem dX10_let_60 : decode cX10_let 60 = .ok (.iload_n 1, 1) := by decide +kernel
theorem dX10_let_61 : decode cX10_let 61 = .ok (.iaload, 1) := by decide +kernel
theorem dX10_let_62 : decode cX10_let 62 = .ok (.goto 9, 3) := by decide +kernel
theorem dX10_let_65 : decode cX10_let 65 = .ok (.aload_n 0, 1) := by decide +kernel
theorem dX10_let_66 : decode cX10_let 66 = .ok (.getfield 46, 3) := by decide +kernel
theorem dX10_let_69 : decode cX10_let 69 = .ok (.iload_n 1, 1) := by decide +kernel
theorem dX10_let_70 : decode cX10_let 70 = .ok (.iaload, 1) := by decide +kernel
theorem dX10_let_71 : decode cX10_let 71 = .ok (.istore 5, 2) := by decide +kernel
theorem dX10_let_73 : decode cX10_let 73 = .ok (.aload_n 0, 1) := by decide +kernel
theorem dX10_let_74 : decode cX10_let 74 = .ok (.getfield 43, 3) := by decide +kernel
theorem dX10_let_77 : decode cX10_let 77 = .ok (.iload_n 1, 1) := by decide +kernel
theorem dX10_let_78 : decode cX10_let 78 = .ok (.iload_n 2, 1) := by decide +kernel
theorem dX10_let_79 : decode cX10_let 79 = .ok (.ifCond .ne 7, 3) := by decide +kernel
theorem dX10_let_82 : decode cX10_let 82 = .ok (.iload_n 3, 1) := by decide +kernel
theorem dX10_let_83 : decode cX10_let 83 = .ok (.goto 9, 3) := by decide +kernel
theorem dX10_let_86 : decode cX10_let 86 = .ok (.aload_n 0, 1) := by decide +kernel
theorem dX10_let_87 : decode cX10_let 87 = .ok (.getfield 43, 3) := by decide +kernel
theorem dX10_let_90 : decode cX10_let 90 = .ok (.iload_n 1, 1) := by decide +kernel
theorem dX10_let_91 : decode cX10_let 91 = .ok (.iaload, 1) := by decide +kernel
theorem dX10_let_92 : decode cX10_let 92 = .ok (.iastore, 1) := by decide +kernel
theorem dX10_let_93 : decode cX10_let 93 = .ok (.aload_n 0, 1) := by decide +kernel
theorem dX10_let_94 : decode cX10_let 94 = .ok (.getfield 46, 3) := by decide +kernel
theorem dX10_let_97 : decode cX10_let 97 = .ok (.iload_n 1, 1) := by decide +kernel
theorem dX10_let_98 : decode cX10_let 98 = .ok (.iload_n 2, 1) := by decide +kernel
theorem dX10_let_99 : decode cX10_let 99 = .ok (.iconst 1, 1) := by decide +kernel
theorem dX10_let_100 : decode cX10_let 100 = .ok (.if_icmp .ne 7, 3) := by decide +kernel
theorem dX10_let_103 : decode cX10_let 103 = .ok (.iload_n 3, 1) := by decide +kernel
theorem dX10_let_104 : decode cX10_let 104 = .ok (.goto 9, 3) := by decide +kernel
theorem dX10_let_107 : decode cX10_let 107 = .ok (.aload_n 0, 1) := by decide +kernel
theorem dX10_let_108 : decode cX10_let 108 = .ok (.getfield 46, 3) := by decide +kernel
theorem dX10_let_111 : decode cX10_let 111 = .ok (.iload_n 1, 1) := by decide +kernel
theorem dX10_let_112 : decode cX10_let 112 = .ok (.iaload, 1) := by decide +kernel
theorem dX10_let_113 : decode cX10_let 113 = .ok (.iastore, 1) := by decide +kernel
theorem dX10_let_114 : decode cX10_let 114 = .ok (.iload 5, 2) := by decide +kernel
theorem dX10_let_116 : decode cX10_let 116 = .ok (.ireturn, 1) := by decide +kernel
theorem dX10_boatTold_0 : decode cX10_boatTold 0 = .ok (.aload_n 0, 1) := by decide +kernel
theorem dX10_boatTold_1 : decode cX10_boatTold 1 = .ok (.iload_n 1, 1) := by decide +kernel
theorem dX10_boatTold_2 : decode cX10_boatTold 2 = .ok (.invokevirtual 236, 3) := by decide +kernel
theorem dX10_boatTold_5 : decode cX10_boatTold 5 = .ok (.ifCond .ne 6, 3) := by decide +kernel
theorem dX10_boatTold_8 : decode cX10_boatTold 8 = .ok (.bipush (-5), 2) := by decide +kernel
theorem dX10_boatTold_10 : decode cX10_boatTold 10 = .ok (.ireturn, 1) := by decide +kernel
theorem dX10_boatTold_11 : decode cX10_boatTold 11 = .ok (.iload_n 2, 1) := by decide +kernel
theorem dX10_boatTold_12 : decode cX10_boatTold 12 = .ok (.tableswitch 82 0 5 #[40, 47, 54, 61, 68, 75], 40) := by decide +kernel
theorem dX10_boatTold_52 : decode cX10_boatTold 52 = .ok (.aload_n 0, 1) := by decide +kernel
theorem dX10_boatTold_53 : decode cX10_boatTold 53 = .ok (.getfield 31, 3) := by decide +kernel
theorem dX10_boatTold_56 : decode cX10_boatTold 56 = .ok (.iload_n 1, 1) := by decide +kernel
theorem dX10_boatTold_57 : decode cX10_boatTold 57 = .ok (.iaload, 1) := by decide +kernel
theorem dX10_boatTold_58 : decode cX10_boatTold 58 = .ok (.ireturn, 1) := by decide +kernel
theorem dX10_boatTold_59 : decode cX10_boatTold 59 = .ok (.aload_n 0, 1) := by decide +kernel
theorem dX10_boatTold_60 : decode cX10_boatTold 60 = .ok (.getfield 34, 3) := by decide +kernel
theorem dX10_boatTold_63 : decode cX10_boatTold 63 = .ok (.iload_n 1, 1) := by decide +kernel
theorem dX10_boatTold_64 : decode cX10_boatTold 64 = .ok (.iaload, 1) := by decide +kernel
theorem dX10_boatTold_65 : decode cX10_boatTold 65 = .ok (.ireturn, 1) := by decide +kernel
theorem dX10_boatTold_66 : decode cX10_boatTold 66 = .ok (.aload_n 0, 1) := by decide +kernel
theorem dX10_boatTold_67 : decode cX10_boatTold 67 = .ok (.getfield 37, 3) := by decide +kernel
theorem dX10_boatTold_70 : decode cX10_boatTold 70 = .ok (.iload_n 1, 1) := by decide +kernel
theorem dX10_boatTold_71 : decode cX10_boatTold 71 = .ok (.iaload, 1) := by decide +kernel
theorem dX10_boatTold_72 : decode cX10_boatTold 72 = .ok (.ireturn, 1) := by decide +kernel
theorem dX10_boatTold_73 : decode cX10_boatTold 73 = .ok (.aload_n 0, 1) := by decide +kernel
theorem dX10_boatTold_74 : decode cX10_boatTold 74 = .ok (.getfield 40, 3) := by decide +kernel
theorem dX10_boatTold_77 : decode cX10_boatTold 77 = .ok (.iload_n 1, 1) := by decide +kernel
theorem dX10_boatTold_78 : decode cX10_boatTold 78 = .ok (.iaload, 1) := by decide +kernel
theorem dX10_boatTold_79 : decode cX10_boatTold 79 = .ok (.ireturn, 1) := by decide +kernel
theorem dX10_boatTold_80 : decode cX10_boatTold 80 = .ok (.aload_n 0, 1) := by decide +kernel
theorem dX10_boatTold_81 : decode cX10_boatTold 81 = .ok (.getfield 43, 3) := by decide +kernel
theorem dX10_boatTold_84 : decode cX10_boatTold 84 = .ok (.iload_n 1, 1) := by decide +kernel
theorem dX10_boatTold_85 : decode cX10_boatTold 85 = .ok (.iaload, 1) := by decide +kernel
theorem dX10_boatTold_86 : decode cX10_boatTold 86 = .ok (.ireturn, 1) := by decide +kernel
theorem dX10_boatTold_87 : decode cX10_boatTold 87 = .ok (.aload_n 0, 1) := by decide +kernel
theorem dX10_boatTold_88 : decode cX10_boatTold 88 = .ok (.getfield 46, 3) := by decide +kernel
theorem dX10_boatTold_91 : decode cX10_boatTold 91 = .ok (.iload_n 1, 1) := by decide +kernel
theorem dX10_boatTold_92 : decode cX10_boatTold 92 = .ok (.iaload, 1) := by decide +kernel
theorem dX10_boatTold_93 : decode cX10_boatTold 93 = .ok (.ireturn, 1) := by decide +kernel
theorem dX10_boatTold_94 : decode cX10_boatTold 94 = .ok (.bipush (-7), 2) := by decide +kernel
theorem dX10_boatTold_96 : decode cX10_boatTold 96 = .ok (.ireturn, 1) := by decide +kernel
theorem dX10_windIn_0 : decode cX10_windIn 0 = .ok (.aload_n 0, 1) := by decide +kernel
theorem dX10_windIn_1 : decode cX10_windIn 1 = .ok (.getfield 239, 3) := by decide +kernel
theorem dX10_windIn_4 : decode cX10_windIn 4 = .ok (.ifCond .eq 25, 3) := by decide +kernel
theorem dX10_windIn_7 : decode cX10_windIn 7 = .ok (.aload_n 0, 1) := by decide +kernel
theorem dX10_windIn_8 : decode cX10_windIn 8 = .ok (.getfield 19, 3) := by decide +kernel
theorem dX10_windIn_11 : decode cX10_windIn 11 = .ok (.iload_n 1, 1) := by decide +kernel
theorem dX10_windIn_12 : decode cX10_windIn 12 = .ok (.iaload, 1) := by decide +kernel
theorem dX10_windIn_13 : decode cX10_windIn 13 = .ok (.aload_n 0, 1) := by decide +kernel
theorem dX10_windIn_14 : decode cX10_windIn 14 = .ok (.getfield 100, 3) := by decide +kernel
theorem dX10_windIn_17 : decode cX10_windIn 17 = .ok (.iload_n 1, 1) := by decide +kernel
theorem dX10_windIn_18 : decode cX10_windIn 18 = .ok (.iaload, 1) := by decide +kernel
theorem dX10_windIn_19 : decode cX10_windIn 19 = .ok (.iadd, 1) := by decide +kernel
theorem dX10_windIn_20 : decode cX10_windIn 20 = .ok (.iconst 0, 1) := by decide +kernel
theorem dX10_windIn_21 : decode cX10_windIn 21 = .ok (.bipush 99, 2) := by decide +kernel
theorem dX10_windIn_23 : decode cX10_windIn 23 = .ok (.invokestatic 226, 3) := by decide +kernel
theorem dX10_windIn_26 : decode cX10_windIn 26 = .ok (.goto 9, 3) := by decide +kernel
theorem dX10_windIn_29 : decode cX10_windIn 29 = .ok (.aload_n 0, 1) := by decide +kernel
theorem dX10_windIn_30 : decode cX10_windIn 30 = .ok (.getfield 19, 3) := by decide +kernel
theorem dX10_windIn_33 : decode cX10_windIn 33 = .ok (.iload_n 1, 1) := by decide +kernel
theorem dX10_windIn_34 : decode cX10_windIn 34 = .ok (.iaload, 1) := by decide +kernel
theorem dX10_windIn_35 : decode cX10_windIn 35 = .ok (.ireturn, 1) := by decide +kernel
theorem dX10_deepAt_0 : decode cX10_deepAt 0 = .ok (.aload_n 0, 1) := by decide +kernel
theorem dX10_deepAt_1 : decode cX10_deepAt 1 = .ok (.getfield 7, 3) := by decide +kernel
theorem dX10_deepAt_4 : decode cX10_deepAt 4 = .ok (.iload_n 1, 1) := by decide +kernel
theorem dX10_deepAt_5 : decode cX10_deepAt 5 = .ok (.iaload, 1) := by decide +kernel
theorem dX10_deepAt_6 : decode cX10_deepAt 6 = .ok (.aload_n 0, 1) := by decide +kernel
theorem dX10_deepAt_7 : decode cX10_deepAt 7 = .ok (.getfield 22, 3) := by decide +kernel
theorem dX10_deepAt_10 : decode cX10_deepAt 10 = .ok (.iload_n 2, 1) := by decide +kernel
theorem dX10_deepAt_11 : decode cX10_deepAt 11 = .ok (.iaload, 1) := by decide +kernel
theorem dX10_deepAt_12 : decode cX10_deepAt 12 = .ok (.iadd, 1) := by decide +kernel
theorem dX10_deepAt_13 : decode cX10_deepAt 13 = .ok (.istore_n 3, 1) := by decide +kernel
theorem dX10_deepAt_14 : decode cX10_deepAt 14 = .ok (.iload_n 3, 1) := by decide +kernel
theorem dX10_deepAt_15 : decode cX10_deepAt 15 = .ok (.ifCond .ge 7, 3) := by decide +kernel
theorem dX10_deepAt_18 : decode cX10_deepAt 18 = .ok (.iconst 0, 1) := by decide +kernel
theorem dX10_deepAt_19 : decode cX10_deepAt 19 = .ok (.goto 4, 3) := by decide +kernel
theorem dX10_deepAt_22 : decode cX10_deepAt 22 = .ok (.iload_n 3, 1) := by decide +kernel
theorem dX10_deepAt_23 : decode cX10_deepAt 23 = .ok (.ireturn, 1) := by decide +kernel
theorem dX10_namesOf_0 : decode cX10_namesOf 0 = .ok (.aload_n 0, 1) := by decide +kernel
theorem dX10_namesOf_1 : decode cX10_namesOf 1 = .ok (.aload_n 0, 1) := by decide +kernel
theorem dX10_namesOf_2 : decode cX10_namesOf 2 = .ok (.iload_n 3, 1) := by decide +kernel
theorem dX10_namesOf_3 : decode cX10_namesOf 3 = .ok (.invokevirtual 243, 3) := by decide +kernel
theorem dX10_namesOf_6 : decode cX10_namesOf 6 = .ok (.aload_n 0, 1) := by decide +kernel
theorem dX10_namesOf_7 : decode cX10_namesOf 7 = .ok (.getfield 34, 3) := by decide +kernel
theorem dX10_namesOf_10 : decode cX10_namesOf 10 = .ok (.iload_n 1, 1) := by decide +kernel
theorem dX10_namesOf_11 : decode cX10_namesOf 11 = .ok (.iaload, 1) := by decide +kernel
theorem dX10_namesOf_12 : decode cX10_namesOf 12 = .ok (.aload_n 0, 1) := by decide +kernel
theorem dX10_namesOf_13 : decode cX10_namesOf 13 = .ok (.iload_n 2, 1) := by decide +kernel
theorem dX10_namesOf_14 : decode cX10_namesOf 14 = .ok (.iload_n 3, 1) := by decide +kernel
theorem dX10_namesOf_15 : decode cX10_namesOf 15 = .ok (.invokevirtual 246, 3) := by decide +kernel
theorem dX10_namesOf_18 : decode cX10_namesOf 18 = .ok (.iload 4, 2) := by decide +kernel
theorem dX10_namesOf_20 : decode cX10_namesOf 20 = .ok (.aload_n 0, 1) := by decide +kernel
theorem dX10_namesOf_21 : decode cX10_namesOf 21 = .ok (.getfield 13, 3) := by decide +kernel
theorem dX10_namesOf_24 : decode cX10_namesOf 24 = .ok (.iload_n 2, 1) := by decide +kernel
theorem dX10_namesOf_25 : decode cX10_namesOf 25 = .ok (.iaload, 1) := by decide +kernel
theorem dX10_namesOf_26 : decode cX10_namesOf 26 = .ok (.aload_n 0, 1) := by decide +kernel
theorem dX10_namesOf_27 : decode cX10_namesOf 27 = .ok (.getfield 37, 3) := by decide +kernel
theorem dX10_namesOf_30 : decode cX10_namesOf 30 = .ok (.iload_n 1, 1) := by decide +kernel
theorem dX10_namesOf_31 : decode cX10_namesOf 31 = .ok (.iaload, 1) := by decide +kernel
theorem dX10_namesOf_32 : decode cX10_namesOf 32 = .ok (.invokevirtual 229, 3) := by decide +kernel
theorem dX10_namesOf_35 : decode cX10_namesOf 35 = .ok (.return_, 1) := by decide +kernel
theorem dX10_pullOf_0 : decode cX10_pullOf 0 = .ok (.aload_n 0, 1) := by decide +kernel
theorem dX10_pullOf_1 : decode cX10_pullOf 1 = .ok (.iload_n 1, 1) := by decide +kernel
theorem dX10_pullOf_2 : decode cX10_pullOf 2 = .ok (.iload_n 2, 1) := by decide +kernel
theorem dX10_pullOf_3 : decode cX10_pullOf 3 = .ok (.iload_n 3, 1) := by decide +kernel
theorem dX10_pullOf_4 : decode cX10_pullOf 4 = .ok (.iload 4, 2) := by decide +kernel
theorem dX10_pullOf_6 : decode cX10_pullOf 6 = .ok (.invokevirtual 249, 3) := by decide +kernel
theorem dX10_pullOf_9 : decode cX10_pullOf 9 = .ok (.aload_n 0, 1) := by decide +kernel
theorem dX10_pullOf_10 : decode cX10_pullOf 10 = .ok (.iconst 0, 1) := by decide +kernel
theorem dX10_pullOf_11 : decode cX10_pullOf 11 = .ok (.invokevirtual 233, 3) := by decide +kernel
theorem dX10_pullOf_14 : decode cX10_pullOf 14 = .ok (.ireturn, 1) := by decide +kernel
theorem dX10_powerOf_0 : decode cX10_powerOf 0 = .ok (.aload_n 0, 1) := by decide +kernel
theorem dX10_powerOf_1 : decode cX10_powerOf 1 = .ok (.iload_n 1, 1) := by decide +kernel
theorem dX10_powerOf_2 : decode cX10_powerOf 2 = .ok (.iload_n 2, 1) := by decide +kernel
theorem dX10_powerOf_3 : decode cX10_powerOf 3 = .ok (.iload_n 3, 1) := by decide +kernel
theorem dX10_powerOf_4 : decode cX10_powerOf 4 = .ok (.iload 4, 2) := by decide +kernel
theorem dX10_powerOf_6 : decode cX10_powerOf 6 = .ok (.invokevirtual 249, 3) := by decide +kernel
theorem dX10_powerOf_9 : decode cX10_powerOf 9 = .ok (.aload_n 0, 1) := by decide +kernel
theorem dX10_powerOf_10 : decode cX10_powerOf 10 = .ok (.iconst 1, 1) := by decide +kernel
theorem dX10_powerOf_11 : decode cX10_powerOf 11 = .ok (.invokevirtual 233, 3) := by decide +kernel
theorem dX10_powerOf_14 : decode cX10_powerOf 14 = .ok (.istore 5, 2) := by decide +kernel
theorem dX10_powerOf_16 : decode cX10_powerOf 16 = .ok (.aload_n 0, 1) := by decide +kernel
theorem dX10_powerOf_17 : decode cX10_powerOf 17 = .ok (.getfield 31, 3) := by decide +kernel
theorem dX10_powerOf_20 : decode cX10_powerOf 20 = .ok (.iload_n 1, 1) := by decide +kernel
theorem dX10_powerOf_21 : decode cX10_powerOf 21 = .ok (.iaload, 1) := by decide +kernel
theorem dX10_powerOf_22 : decode cX10_powerOf 22 = .ok (.istore 6, 2) := by decide +kernel
theorem dX10_powerOf_24 : decode cX10_powerOf 24 = .ok (.iload 6, 2) := by decide +kernel
theorem dX10_powerOf_26 : decode cX10_powerOf 26 = .ok (.iconst 1, 1) := by decide +kernel
theorem dX10_powerOf_27 : decode cX10_powerOf 27 = .ok (.if_icmp .eq 15, 3) := by decide +kernel
theorem dX10_powerOf_30 : decode cX10_powerOf 30 = .ok (.iload 6, 2) := by decide +kernel
theorem dX10_powerOf_32 : decode cX10_powerOf 32 = .ok (.iconst 4, 1) := by decide +kernel
theorem dX10_powerOf_33 : decode cX10_powerOf 33 = .ok (.if_icmp .eq 9, 3) := by decide +kernel
theorem dX10_powerOf_36 : decode cX10_powerOf 36 = .ok (.iload 6, 2) := by decide +kernel
theorem dX10_powerOf_38 : decode cX10_powerOf 38 = .ok (.iconst 5, 1) := by decide +kernel
theorem dX10_powerOf_39 : decode cX10_powerOf 39 = .ok (.if_icmp .ne 31, 3) := by decide +kernel
theorem dX10_powerOf_42 : decode cX10_powerOf 42 = .ok (.iconst 3, 1) := by decide +kernel
theorem dX10_powerOf_43 : decode cX10_powerOf 43 = .ok (.iload 5, 2) := by decide +kernel
theorem dX10_powerOf_45 : decode cX10_powerOf 45 = .ok (.imul, 1) := by decide +kernel
theorem dX10_powerOf_46 : decode cX10_powerOf 46 = .ok (.iconst 2, 1) := by decide +kernel
theorem dX10_powerOf_47 : decode cX10_powerOf 47 = .ok (.idiv, 1) := by decide +kernel
theorem dX10_powerOf_48 : decode cX10_powerOf 48 = .ok (.iload 6, 2) := by decide +kernel
theorem dX10_powerOf_50 : decode cX10_powerOf 50 = .ok (.iconst 5, 1) := by decide +kernel
theorem dX10_powerOf_51 : decode cX10_powerOf 51 = .ok (.if_icmp .ne 15, 3) := by decide +kernel
theorem dX10_powerOf_54 : decode cX10_powerOf 54 = .ok (.bipush 10, 2) := by decide +kernel
theorem dX10_powerOf_56 : decode cX10_powerOf 56 = .ok (.aload_n 0, 1) := by decide +kernel
theorem dX10_powerOf_57 : decode cX10_powerOf 57 = .ok (.getfield 40, 3) := by decide +kernel
theorem dX10_powerOf_60 : decode cX10_powerOf 60 = .ok (.iload_n 1, 1) := by decide +kernel
theorem dX10_powerOf_61 : decode cX10_powerOf 61 = .ok (.iaload, 1) := by decide +kernel
theorem dX10_powerOf_62 : decode cX10_powerOf 62 = .ok (.imul, 1) := by decide +kernel
theorem dX10_powerOf_63 : decode cX10_powerOf 63 = .ok (.goto 4, 3) := by decide +kernel
theorem dX10_powerOf_66 : decode cX10_powerOf 66 = .ok (.iconst 0, 1) := by decide +kernel
theorem dX10_powerOf_67 : decode cX10_powerOf 67 = .ok (.iadd, 1) := by decide +kernel
theorem dX10_powerOf_68 : decode cX10_powerOf 68 = .ok (.istore 5, 2) := by decide +kernel
theorem dX10_powerOf_70 : decode cX10_powerOf 70 = .ok (.iload 6, 2) := by decide +kernel
theorem dX10_powerOf_72 : decode cX10_powerOf 72 = .ok (.iconst 3, 1) := by decide +kernel
theorem dX10_powerOf_73 : decode cX10_powerOf 73 = .ok (.if_icmp .ne 10, 3) := by decide +kernel
theorem dX10_powerOf_76 : decode cX10_powerOf 76 = .ok (.iload 5, 2) := by decide +kernel
theorem dX10_powerOf_78 : decode cX10_powerOf 78 = .ok (.iconst 4, 1) := by decide +kernel
theorem dX10_powerOf_79 : decode cX10_powerOf 79 = .ok (.idiv, 1) := by decide +kernel
theorem dX10_powerOf_80 : decode cX10_powerOf 80 = .ok (.goto 5, 3) := by decide +kernel
theorem dX10_powerOf_83 : decode cX10_powerOf 83 = .ok (.iload 5, 2) := by decide +kernel
theorem dX10_powerOf_85 : decode cX10_powerOf 85 = .ok (.istore 5, 2) := by decide +kernel
theorem dX10_powerOf_87 : decode cX10_powerOf 87 = .ok (.iconst 3, 1) := by decide +kernel
theorem dX10_powerOf_88 : decode cX10_powerOf 88 = .ok (.aload_n 0, 1) := by decide +kernel
theorem dX10_powerOf_89 : decode cX10_powerOf 89 = .ok (.iload_n 2, 1) := by decide +kernel
theorem dX10_powerOf_90 : decode cX10_powerOf 90 = .ok (.iload_n 3, 1) := by decide +kernel
theorem dX10_powerOf_91 : decode cX10_powerOf 91 = .ok (.invokevirtual 246, 3) := by decide +kernel
theorem dX10_powerOf_94 : decode cX10_powerOf 94 = .ok (.imul, 1) := by decide +kernel
theorem dX10_powerOf_95 : decode cX10_powerOf 95 = .ok (.istore 7, 2) := by decide +kernel
theorem dX10_powerOf_97 : decode cX10_powerOf 97 = .ok (.iload 4, 2) := by decide +kernel
theorem dX10_powerOf_99 : decode cX10_powerOf 99 = .ok (.iload 7, 2) := by decide +kernel
theorem dX10_powerOf_101 : decode cX10_powerOf 101 = .ok (.if_icmp .ge 14, 3) := by decide +kernel
theorem dX10_powerOf_104 : decode cX10_powerOf 104 = .ok (.iload 5, 2) := by decide +kernel
theorem dX10_powerOf_106 : decode cX10_powerOf 106 = .ok (.iload 4, 2) := by decide +kernel
theorem dX10_powerOf_108 : decode cX10_powerOf 108 = .ok (.imul, 1) := by decide +kernel
theorem dX10_powerOf_109 : decode cX10_powerOf 109 = .ok (.iload 7, 2) := by decide +kernel
theorem dX10_powerOf_111 : decode cX10_powerOf 111 = .ok (.idiv, 1) := by decide +kernel
theorem dX10_powerOf_112 : decode cX10_powerOf 112 = .ok (.goto 5, 3) := by decide +kernel
theorem dX10_powerOf_115 : decode cX10_powerOf 115 = .ok (.iload 5, 2) := by decide +kernel
theorem dX10_powerOf_117 : decode cX10_powerOf 117 = .ok (.ireturn, 1) := by decide +kernel
theorem dX10_farOff_0 : decode cX10_farOff 0 = .ok (.aload_n 0, 1) := by decide +kernel
theorem dX10_farOff_1 : decode cX10_farOff 1 = .ok (.iload_n 1, 1) := by decide +kernel
theorem dX10_farOff_2 : decode cX10_farOff 2 = .ok (.iload_n 2, 1) := by decide +kernel
theorem dX10_farOff_3 : decode cX10_farOff 3 = .ok (.invokevirtual 246, 3) := by decide +kernel
theorem dX10_farOff_6 : decode cX10_farOff 6 = .ok (.istore 4, 2) := by decide +kernel
theorem dX10_farOff_8 : decode cX10_farOff 8 = .ok (.iload_n 3, 1) := by decide +kernel
theorem dX10_farOff_9 : decode cX10_farOff 9 = .ok (.iload 4, 2) := by decide +kernel
theorem dX10_farOff_11 : decode cX10_farOff 11 = .ok (.if_icmp .le 15, 3) := by decide +kernel
theorem dX10_farOff_14 : decode cX10_farOff 14 = .ok (.iload_n 3, 1) := by decide +kernel
theorem dX10_farOff_15 : decode cX10_farOff 15 = .ok (.iload_n 3, 1) := by decide +kernel
theorem dX10_farOff_16 : decode cX10_farOff 16 = .ok (.imul, 1) := by decide +kernel
theorem dX10_farOff_17 : decode cX10_farOff 17 = .ok (.iload 4, 2) := by decide +kernel
theorem dX10_farOff_19 : decode cX10_farOff 19 = .ok (.iload 4, 2) := by decide +kernel
theorem dX10_farOff_21 : decode cX10_farOff 21 = .ok (.imul, 1) := by decide +kernel
theorem dX10_farOff_22 : decode cX10_farOff 22 = .ok (.isub, 1) := by decide +kernel
theorem dX10_farOff_23 : decode cX10_farOff 23 = .ok (.goto 4, 3) := by decide +kernel
theorem dX10_farOff_26 : decode cX10_farOff 26 = .ok (.iconst 0, 1) := by decide +kernel
theorem dX10_farOff_27 : decode cX10_farOff 27 = .ok (.istore 5, 2) := by decide +kernel
theorem dX10_farOff_29 : decode cX10_farOff 29 = .ok (.iconst 0, 1) := by decide +kernel
theorem dX10_farOff_30 : decode cX10_farOff 30 = .ok (.istore 6, 2) := by decide +kernel
theorem dX10_farOff_32 : decode cX10_farOff 32 = .ok (.iload 6, 2) := by decide +kernel
theorem dX10_farOff_34 : decode cX10_farOff 34 = .ok (.iconst 1, 1) := by decide +kernel
theorem dX10_farOff_35 : decode cX10_farOff 35 = .ok (.iadd, 1) := by decide +kernel
theorem dX10_farOff_36 : decode cX10_farOff 36 = .ok (.iload 6, 2) := by decide +kernel
theorem dX10_farOff_38 : decode cX10_farOff 38 = .ok (.iconst 1, 1) := by decide +kernel
theorem dX10_farOff_39 : decode cX10_farOff 39 = .ok (.iadd, 1) := by decide +kernel
theorem dX10_farOff_40 : decode cX10_farOff 40 = .ok (.imul, 1) := by decide +kernel
theorem dX10_farOff_41 : decode cX10_farOff 41 = .ok (.iload 5, 2) := by decide +kernel
theorem dX10_farOff_43 : decode cX10_farOff 43 = .ok (.if_icmp .gt 9, 3) := by decide +kernel
theorem dX10_farOff_46 : decode cX10_farOff 46 = .ok (.iinc 6 1, 3) := by decide +kernel
theorem dX10_farOff_49 : decode cX10_farOff 49 = .ok (.goto (-17), 3) := by decide +kernel
theorem dX10_farOff_52 : decode cX10_farOff 52 = .ok (.iload 6, 2) := by decide +kernel
theorem dX10_farOff_54 : decode cX10_farOff 54 = .ok (.iconst 5, 1) := by decide +kernel
theorem dX10_farOff_55 : decode cX10_farOff 55 = .ok (.idiv, 1) := by decide +kernel
theorem dX10_farOff_56 : decode cX10_farOff 56 = .ok (.ireturn, 1) := by decide +kernel
theorem dX10_isWithin_0 : decode cX10_isWithin 0 = .ok (.iload_n 0, 1) := by decide +kernel
theorem dX10_isWithin_1 : decode cX10_isWithin 1 = .ok (.iconst 0, 1) := by decide +kernel
theorem dX10_isWithin_2 : decode cX10_isWithin 2 = .ok (.bipush 9, 2) := by decide +kernel
theorem dX10_isWithin_4 : decode cX10_isWithin 4 = .ok (.invokestatic 132, 3) := by decide +kernel
theorem dX10_isWithin_7 : decode cX10_isWithin 7 = .ok (.ifCond .eq 17, 3) := by decide +kernel
theorem dX10_isWithin_10 : decode cX10_isWithin 10 = .ok (.iload_n 1, 1) := by decide +kernel
theorem dX10_isWithin_11 : decode cX10_isWithin 11 = .ok (.iconst 0, 1) := by decide +kernel
theorem dX10_isWithin_12 : decode cX10_isWithin 12 = .ok (.bipush 9, 2) := by decide +kernel
theorem dX10_isWithin_14 : decode cX10_isWithin 14 = .ok (.invokestatic 132, 3) := by decide +kernel
theorem dX10_isWithin_17 : decode cX10_isWithin 17 = .ok (.ifCond .eq 7, 3) := by decide +kernel
theorem dX10_isWithin_20 : decode cX10_isWithin 20 = .ok (.iconst 1, 1) := by decide +kernel
theorem dX10_isWithin_21 : decode cX10_isWithin 21 = .ok (.goto 4, 3) := by decide +kernel
theorem dX10_isWithin_24 : decode cX10_isWithin 24 = .ok (.iconst 0, 1) := by decide +kernel
theorem dX10_isWithin_25 : decode cX10_isWithin 25 = .ok (.ireturn, 1) := by decide +kernel
theorem dX10_lies_0 : decode cX10_lies 0 = .ok (.iload_n 1, 1) := by decide +kernel
theorem dX10_lies_1 : decode cX10_lies 1 = .ok (.bipush 10, 2) := by decide +kernel
theorem dX10_lies_3 : decode cX10_lies 3 = .ok (.irem, 1) := by decide +kernel
theorem dX10_lies_4 : decode cX10_lies 4 = .ok (.istore 4, 2) := by decide +kernel
theorem dX10_lies_6 : decode cX10_lies 6 = .ok (.iload_n 1, 1) := by decide +kernel
theorem dX10_lies_7 : decode cX10_lies 7 = .ok (.bipush 10, 2) := by decide +kernel
theorem dX10_lies_9 : decode cX10_lies 9 = .ok (.idiv, 1) := by decide +kernel
theorem dX10_lies_10 : decode cX10_lies 10 = .ok (.istore 5, 2) := by decide +kernel
theorem dX10_lies_12 : decode cX10_lies 12 = .ok (.iconst 0, 1) := by decide +kernel
theorem dX10_lies_13 : decode cX10_lies 13 = .ok (.istore 6, 2) := by decide +kernel
theorem dX10_lies_15 : decode cX10_lies 15 = .ok (.iload 6, 2) := by decide +kernel
theorem dX10_lies_17 : decode cX10_lies 17 = .ok (.iload_n 3, 1) := by decide +kernel
theorem dX10_lies_18 : decode cX10_lies 18 = .ok (.if_icmp .ge 55, 3) := by decide +kernel
theorem dX10_lies_21 : decode cX10_lies 21 = .ok (.iload 4, 2) := by decide +kernel
theorem dX10_lies_23 : decode cX10_lies 23 = .ok (.aload_n 0, 1) := by decide +kernel
theorem dX10_lies_24 : decode cX10_lies 24 = .ok (.getfield 25, 3) := by decide +kernel
theorem dX10_lies_27 : decode cX10_lies 27 = .ok (.iload_n 2, 1) := by decide +kernel
theorem dX10_lies_28 : decode cX10_lies 28 = .ok (.iaload, 1) := by decide +kernel
theorem dX10_lies_29 : decode cX10_lies 29 = .ok (.iadd, 1) := by decide +kernel
theorem dX10_lies_30 : decode cX10_lies 30 = .ok (.iload 5, 2) := by decide +kernel
theorem dX10_lies_32 : decode cX10_lies 32 = .ok (.aload_n 0, 1) := by decide +kernel
theorem dX10_lies_33 : decode cX10_lies 33 = .ok (.getfield 28, 3) := by decide +kernel
theorem dX10_lies_36 : decode cX10_lies 36 = .ok (.iload_n 2, 1) := by decide +kernel
theorem dX10_lies_37 : decode cX10_lies 37 = .ok (.iaload, 1) := by decide +kernel
theorem dX10_lies_38 : decode cX10_lies 38 = .ok (.iadd, 1) := by decide +kernel
theorem dX10_lies_39 : decode cX10_lies 39 = .ok (.invokestatic 253, 3) := by decide +kernel
theorem dX10_lies_42 : decode cX10_lies 42 = .ok (.ifCond .eq 31, 3) := by decide +kernel
theorem dX10_lies_45 : decode cX10_lies 45 = .ok (.iload 4, 2) := by decide +kernel
theorem dX10_lies_47 : decode cX10_lies 47 = .ok (.aload_n 0, 1) := by decide +kernel
theorem dX10_lies_48 : decode cX10_lies 48 = .ok (.getfield 25, 3) := by decide +kernel
theorem dX10_lies_51 : decode cX10_lies 51 = .ok (.iload_n 2, 1) := by decide +kernel
theorem dX10_lies_52 : decode cX10_lies 52 = .ok (.iaload, 1) := by decide +kernel
theorem dX10_lies_53 : decode cX10_lies 53 = .ok (.iadd, 1) := by decide +kernel
theorem dX10_lies_54 : decode cX10_lies 54 = .ok (.istore 4, 2) := by decide +kernel
theorem dX10_lies_56 : decode cX10_lies 56 = .ok (.iload 5, 2) := by decide +kernel
theorem dX10_lies_58 : decode cX10_lies 58 = .ok (.aload_n 0, 1) := by decide +kernel
theorem dX10_lies_59 : decode cX10_lies 59 = .ok (.getfield 28, 3) := by decide +kernel
theorem dX10_lies_62 : decode cX10_lies 62 = .ok (.iload_n 2, 1) := by decide +kernel
theorem dX10_lies_63 : decode cX10_lies 63 = .ok (.iaload, 1) := by decide +kernel
theorem dX10_lies_64 : decode cX10_lies 64 = .ok (.iadd, 1) := by decide +kernel
theorem dX10_lies_65 : decode cX10_lies 65 = .ok (.istore 5, 2) := by decide +kernel
theorem dX10_lies_67 : decode cX10_lies 67 = .ok (.iinc 6 1, 3) := by decide +kernel
theorem dX10_lies_70 : decode cX10_lies 70 = .ok (.goto (-55), 3) := by decide +kernel
theorem dX10_lies_73 : decode cX10_lies 73 = .ok (.bipush 10, 2) := by decide +kernel
theorem dX10_lies_75 : decode cX10_lies 75 = .ok (.iload 5, 2) := by decide +kernel
theorem dX10_lies_77 : decode cX10_lies 77 = .ok (.imul, 1) := by decide +kernel
theorem dX10_lies_78 : decode cX10_lies 78 = .ok (.iload 4, 2) := by decide +kernel
theorem dX10_lies_80 : decode cX10_lies 80 = .ok (.iadd, 1) := by decide +kernel
theorem dX10_lies_81 : decode cX10_lies 81 = .ok (.ireturn, 1) := by decide +kernel
theorem dX10_turnIn_0 : decode cX10_turnIn 0 = .ok (.iload_n 1, 1) := by decide +kernel
theorem dX10_turnIn_1 : decode cX10_turnIn 1 = .ok (.ifCond .ne 7, 3) := by decide +kernel
theorem dX10_turnIn_4 : decode cX10_turnIn 4 = .ok (.iconst 0, 1) := by decide +kernel
theorem dX10_turnIn_5 : decode cX10_turnIn 5 = .ok (.goto 21, 3) := by decide +kernel
theorem dX10_turnIn_8 : decode cX10_turnIn 8 = .ok (.aload_n 0, 1) := by decide +kernel
theorem dX10_turnIn_9 : decode cX10_turnIn 9 = .ok (.getfield 16, 3) := by decide +kernel
theorem dX10_turnIn_12 : decode cX10_turnIn 12 = .ok (.iload_n 1, 1) := by decide +kernel
theorem dX10_turnIn_13 : decode cX10_turnIn 13 = .ok (.iaload, 1) := by decide +kernel
theorem dX10_turnIn_14 : decode cX10_turnIn 14 = .ok (.aload_n 0, 1) := by decide +kernel
theorem dX10_turnIn_15 : decode cX10_turnIn 15 = .ok (.getfield 16, 3) := by decide +kernel
theorem dX10_turnIn_18 : decode cX10_turnIn 18 = .ok (.iload_n 1, 1) := by decide +kernel
theorem dX10_turnIn_19 : decode cX10_turnIn 19 = .ok (.iconst 1, 1) := by decide +kernel
theorem dX10_turnIn_20 : decode cX10_turnIn 20 = .ok (.isub, 1) := by decide +kernel
theorem dX10_turnIn_21 : decode cX10_turnIn 21 = .ok (.iaload, 1) := by decide +kernel
theorem dX10_turnIn_22 : decode cX10_turnIn 22 = .ok (.isub, 1) := by decide +kernel
theorem dX10_turnIn_23 : decode cX10_turnIn 23 = .ok (.invokestatic 256, 3) := by decide +kernel
theorem dX10_turnIn_26 : decode cX10_turnIn 26 = .ok (.istore_n 2, 1) := by decide +kernel
theorem dX10_turnIn_27 : decode cX10_turnIn 27 = .ok (.iload_n 2, 1) := by decide +kernel
theorem dX10_turnIn_28 : decode cX10_turnIn 28 = .ok (.iconst 4, 1) := by decide +kernel
theorem dX10_turnIn_29 : decode cX10_turnIn 29 = .ok (.if_icmp .le 10, 3) := by decide +kernel
theorem dX10_turnIn_32 : decode cX10_turnIn 32 = .ok (.bipush 8, 2) := by decide +kernel
theorem dX10_turnIn_34 : decode cX10_turnIn 34 = .ok (.iload_n 2, 1) := by decide +kernel
theorem dX10_turnIn_35 : decode cX10_turnIn 35 = .ok (.isub, 1) := by decide +kernel
theorem dX10_turnIn_36 : decode cX10_turnIn 36 = .ok (.goto 4, 3) := by decide +kernel
theorem dX10_turnIn_39 : decode cX10_turnIn 39 = .ok (.iload_n 2, 1) := by decide +kernel
theorem dX10_turnIn_40 : decode cX10_turnIn 40 = .ok (.ireturn, 1) := by decide +kernel
theorem dX10_hold_0 : decode cX10_hold 0 = .ok (.aload_n 0, 1) := by decide +kernel
theorem dX10_hold_1 : decode cX10_hold 1 = .ok (.iload_n 1, 1) := by decide +kernel
theorem dX10_hold_2 : decode cX10_hold 2 = .ok (.invokevirtual 236, 3) := by decide +kernel
theorem dX10_hold_5 : decode cX10_hold 5 = .ok (.ifCond .ne 6, 3) := by decide +kernel
theorem dX10_hold_8 : decode cX10_hold 8 = .ok (.bipush (-5), 2) := by decide +kernel
theorem dX10_hold_10 : decode cX10_hold 10 = .ok (.ireturn, 1) := by decide +kernel
theorem dX10_hold_11 : decode cX10_hold 11 = .ok (.iload_n 2, 1) := by decide +kernel
theorem dX10_hold_12 : decode cX10_hold 12 = .ok (.invokestatic 154, 3) := by decide +kernel
theorem dX10_hold_15 : decode cX10_hold 15 = .ok (.ifCond .eq 12, 3) := by decide +kernel
theorem dX10_hold_18 : decode cX10_hold 18 = .ok (.iload_n 3, 1) := by decide +kernel
theorem dX10_hold_19 : decode cX10_hold 19 = .ok (.iconst 0, 1) := by decide +kernel
theorem dX10_hold_20 : decode cX10_hold 20 = .ok (.iconst 3, 1) := by decide +kernel
theorem dX10_hold_21 : decode cX10_hold 21 = .ok (.invokestatic 132, 3) := by decide +kernel
theorem dX10_hold_24 : decode cX10_hold 24 = .ok (.ifCond .ne 6, 3) := by decide +kernel
theorem dX10_hold_27 : decode cX10_hold 27 = .ok (.bipush (-7), 2) := by decide +kernel
theorem dX10_hold_29 : decode cX10_hold 29 = .ok (.ireturn, 1) := by decide +kernel
theorem dX10_hold_30 : decode cX10_hold 30 = .ok (.aload_n 0, 1) := by decide +kernel
theorem dX10_hold_31 : decode cX10_hold 31 = .ok (.getfield 43, 3) := by decide +kernel
theorem dX10_hold_34 : decode cX10_hold 34 = .ok (.iload_n 1, 1) := by decide +kernel
theorem dX10_hold_35 : decode cX10_hold 35 = .ok (.iaload, 1) := by decide +kernel
theorem dX10_hold_36 : decode cX10_hold 36 = .ok (.istore 4, 2) := by decide +kernel
theorem dX10_hold_38 : decode cX10_hold 38 = .ok (.iload 4, 2) := by decide +kernel
theorem dX10_hold_40 : decode cX10_hold 40 = .ok (.iconst (-1), 1) := by decide +kernel
theorem dX10_hold_41 : decode cX10_hold 41 = .ok (.if_icmp .ne 6, 3) := by decide +kernel
theorem dX10_hold_44 : decode cX10_hold 44 = .ok (.bipush (-3), 2) := by decide +kernel
theorem dX10_hold_46 : decode cX10_hold 46 = .ok (.ireturn, 1) := by decide +kernel
theorem dX10_hold_47 : decode cX10_hold 47 = .ok (.iload_n 3, 1) := by decide +kernel
theorem dX10_hold_48 : decode cX10_hold 48 = .ok (.iconst 2, 1) := by decide +kernel
theorem dX10_hold_49 : decode cX10_hold 49 = .ok (.if_icmp .ge 39, 3) := by decide +kernel
theorem dX10_hold_52 : decode cX10_hold 52 = .ok (.iload_n 3, 1) := by decide +kernel
theorem dX10_hold_53 : decode cX10_hold 53 = .ok (.ifCond .ne 20, 3) := by decide +kernel
theorem dX10_hold_56 : decode cX10_hold 56 = .ok (.aload_n 0, 1) := by decide +kernel
theorem dX10_hold_57 : decode cX10_hold 57 = .ok (.iload_n 1, 1) := by decide +kernel
theorem dX10_hold_58 : decode cX10_hold 58 = .ok (.iload 4, 2) := by decide +kernel
theorem dX10_hold_60 : decode cX10_hold 60 = .ok (.iload_n 2, 1) := by decide +kernel
theorem dX10_hold_61 : decode cX10_hold 61 = .ok (.aload_n 0, 1) := by decide +kernel
theorem dX10_hold_62 : decode cX10_hold 62 = .ok (.getfield 46, 3) := by decide +kernel
theorem dX10_hold_65 : decode cX10_hold 65 = .ok (.iload_n 1, 1) := by decide +kernel
theorem dX10_hold_66 : decode cX10_hold 66 = .ok (.iaload, 1) := by decide +kernel
theorem dX10_hold_67 : decode cX10_hold 67 = .ok (.invokevirtual 259, 3) := by decide +kernel
theorem dX10_hold_70 : decode cX10_hold 70 = .ok (.goto 17, 3) := by decide +kernel
theorem dX10_hold_73 : decode cX10_hold 73 = .ok (.aload_n 0, 1) := by decide +kernel
theorem dX10_hold_74 : decode cX10_hold 74 = .ok (.iload_n 1, 1) := by decide +kernel
theorem dX10_hold_75 : decode cX10_hold 75 = .ok (.iload 4, 2) := by decide +kernel
theorem dX10_hold_77 : decode cX10_hold 77 = .ok (.iload_n 2, 1) := by decide +kernel
theorem dX10_hold_78 : decode cX10_hold 78 = .ok (.aload_n 0, 1) := by decide +kernel
theorem dX10_hold_79 : decode cX10_hold 79 = .ok (.getfield 46, 3) := by decide +kernel
theorem dX10_hold_82 : decode cX10_hold 82 = .ok (.iload_n 1, 1) := by decide +kernel
theorem dX10_hold_83 : decode cX10_hold 83 = .ok (.iaload, 1) := by decide +kernel
theorem dX10_hold_84 : decode cX10_hold 84 = .ok (.invokevirtual 263, 3) := by decide +kernel
theorem dX10_hold_87 : decode cX10_hold 87 = .ok (.ireturn, 1) := by decide +kernel
theorem dX10_hold_88 : decode cX10_hold 88 = .ok (.iload_n 3, 1) := by decide +kernel
theorem dX10_hold_89 : decode cX10_hold 89 = .ok (.iconst 2, 1) := by decide +kernel
theorem dX10_hold_90 : decode cX10_hold 90 = .ok (.if_icmp .ne 17, 3) := by decide +kernel
theorem dX10_hold_93 : decode cX10_hold 93 = .ok (.aload_n 0, 1) := by decide +kernel
theorem dX10_hold_94 : decode cX10_hold 94 = .ok (.iload 4, 2) := by decide +kernel
theorem dX10_hold_96 : decode cX10_hold 96 = .ok (.iload_n 2, 1) := by decide +kernel
theorem dX10_hold_97 : decode cX10_hold 97 = .ok (.aload_n 0, 1) := by decide +kernel
theorem dX10_hold_98 : decode cX10_hold 98 = .ok (.getfield 46, 3) := by decide +kernel
theorem dX10_hold_101 : decode cX10_hold 101 = .ok (.iload_n 1, 1) := by decide +kernel
theorem dX10_hold_102 : decode cX10_hold 102 = .ok (.iaload, 1) := by decide +kernel
theorem dX10_hold_103 : decode cX10_hold 103 = .ok (.invokevirtual 266, 3) := by decide +kernel
theorem dX10_hold_106 : decode cX10_hold 106 = .ok (.ireturn, 1) := by decide +kernel
theorem dX10_hold_107 : decode cX10_hold 107 = .ok (.iconst 3, 1) := by decide +kernel
theorem dX10_hold_108 : decode cX10_hold 108 = .ok (.aload_n 0, 1) := by decide +kernel
theorem dX10_hold_109 : decode cX10_hold 109 = .ok (.iload 4, 2) := by decide +kernel
theorem dX10_hold_111 : decode cX10_hold 111 = .ok (.iload_n 2, 1) := by decide +kernel
theorem dX10_hold_112 : decode cX10_hold 112 = .ok (.invokevirtual 246, 3) := by decide +kernel
theorem dX10_hold_115 : decode cX10_hold 115 = .ok (.imul, 1) := by decide +kernel
theorem dX10_hold_116 : decode cX10_hold 116 = .ok (.istore 5, 2) := by decide +kernel
theorem dX10_hold_118 : decode cX10_hold 118 = .ok (.iload 5, 2) := by decide +kernel
theorem dX10_hold_120 : decode cX10_hold 120 = .ok (.ifCond .eq 14, 3) := by decide +kernel
theorem dX10_hold_123 : decode cX10_hold 123 = .ok (.aload_n 0, 1) := by decide +kernel
theorem dX10_hold_124 : decode cX10_hold 124 = .ok (.getfield 46, 3) := by decide +kernel
theorem dX10_hold_127 : decode cX10_hold 127 = .ok (.iload_n 1, 1) := by decide +kernel
theorem dX10_hold_128 : decode cX10_hold 128 = .ok (.iaload, 1) := by decide +kernel
theorem dX10_hold_129 : decode cX10_hold 129 = .ok (.iload 5, 2) := by decide +kernel
theorem dX10_hold_131 : decode cX10_hold 131 = .ok (.if_icmp .lt 8, 3) := by decide +kernel
theorem dX10_hold_134 : decode cX10_hold 134 = .ok (.bipush 100, 2) := by decide +kernel
theorem dX10_hold_136 : decode cX10_hold 136 = .ok (.goto 15, 3) := by decide +kernel
theorem dX10_hold_139 : decode cX10_hold 139 = .ok (.bipush 100, 2) := by decide +kernel
theorem dX10_hold_141 : decode cX10_hold 141 = .ok (.aload_n 0, 1) := by decide +kernel
theorem dX10_hold_142 : decode cX10_hold 142 = .ok (.getfield 46, 3) := by decide +kernel
theorem dX10_hold_145 : decode cX10_hold 145 = .ok (.iload_n 1, 1) := by decide +kernel
theorem dX10_hold_146 : decode cX10_hold 146 = .ok (.iaload, 1) := by decide +kernel
theorem dX10_hold_147 : decode cX10_hold 147 = .ok (.imul, 1) := by decide +kernel
theorem dX10_hold_148 : decode cX10_hold 148 = .ok (.iload 5, 2) := by decide +kernel
theorem dX10_hold_150 : decode cX10_hold 150 = .ok (.idiv, 1) := by decide +kernel
theorem dX10_hold_151 : decode cX10_hold 151 = .ok (.ireturn, 1) := by decide +kernel
theorem dX10_drags_0 : decode cX10_drags 0 = .ok (.aload_n 0, 1) := by decide +kernel
theorem dX10_drags_1 : decode cX10_drags 1 = .ok (.getfield 31, 3) := by decide +kernel
theorem dX10_drags_4 : decode cX10_drags 4 = .ok (.iload_n 1, 1) := by decide +kernel
theorem dX10_drags_5 : decode cX10_drags 5 = .ok (.iaload, 1) := by decide +kernel
theorem dX10_drags_6 : decode cX10_drags 6 = .ok (.iconst 4, 1) := by decide +kernel
theorem dX10_drags_7 : decode cX10_drags 7 = .ok (.if_icmp .ne 19, 3) := by decide +kernel
theorem dX10_drags_10 : decode cX10_drags 10 = .ok (.aload_n 0, 1) := by decide +kernel
theorem dX10_drags_11 : decode cX10_drags 11 = .ok (.iload_n 3, 1) := by decide +kernel
theorem dX10_drags_12 : decode cX10_drags 12 = .ok (.invokevirtual 269, 3) := by decide +kernel
theorem dX10_drags_15 : decode cX10_drags 15 = .ok (.aload_n 0, 1) := by decide +kernel
theorem dX10_drags_16 : decode cX10_drags 16 = .ok (.getfield 40, 3) := by decide +kernel
theorem dX10_drags_19 : decode cX10_drags 19 = .ok (.iload_n 1, 1) := by decide +kernel
theorem dX10_drags_20 : decode cX10_drags 20 = .ok (.iaload, 1) := by decide +kernel
theorem dX10_drags_21 : decode cX10_drags 21 = .ok (.if_icmp .le 5, 3) := by decide +kernel
theorem dX10_drags_24 : decode cX10_drags 24 = .ok (.iconst 1, 1) := by decide +kernel
theorem dX10_drags_25 : decode cX10_drags 25 = .ok (.ireturn, 1) := by decide +kernel
theorem dX10_drags_26 : decode cX10_drags 26 = .ok (.aload_n 0, 1) := by decide +kernel
theorem dX10_drags_27 : decode cX10_drags 27 = .ok (.getfield 31, 3) := by decide +kernel
theorem dX10_drags_30 : decode cX10_drags 30 = .ok (.iload_n 1, 1) := by decide +kernel
theorem dX10_drags_31 : decode cX10_drags 31 = .ok (.iaload, 1) := by decide +kernel
theorem dX10_drags_32 : decode cX10_drags 32 = .ok (.iconst 2, 1) := by decide +kernel
theorem dX10_drags_33 : decode cX10_drags 33 = .ok (.if_icmp .ne 10, 3) := by decide +kernel
theorem dX10_drags_36 : decode cX10_drags 36 = .ok (.iload_n 3, 1) := by decide +kernel
theorem dX10_drags_37 : decode cX10_drags 37 = .ok (.iconst 2, 1) := by decide +kernel
theorem dX10_drags_38 : decode cX10_drags 38 = .ok (.irem, 1) := by decide +kernel
theorem dX10_drags_39 : decode cX10_drags 39 = .ok (.iconst 1, 1) := by decide +kernel
theorem dX10_drags_40 : decode cX10_drags 40 = .ok (.if_icmp .ne 34, 3) := by decide +kernel
theorem dX10_drags_43 : decode cX10_drags 43 = .ok (.aload_n 0, 1) := by decide +kernel
theorem dX10_drags_44 : decode cX10_drags 44 = .ok (.iload_n 1, 1) := by decide +kernel
theorem dX10_drags_45 : decode cX10_drags 45 = .ok (.iload_n 2, 1) := by decide +kernel
theorem dX10_drags_46 : decode cX10_drags 46 = .ok (.iload_n 3, 1) := by decide +kernel
theorem dX10_drags_47 : decode cX10_drags 47 = .ok (.iload 4, 2) := by decide +kernel
theorem dX10_drags_49 : decode cX10_drags 49 = .ok (.invokevirtual 259, 3) := by decide +kernel
theorem dX10_drags_52 : decode cX10_drags 52 = .ok (.iload 5, 2) := by decide +kernel
theorem dX10_drags_54 : decode cX10_drags 54 = .ok (.isub, 1) := by decide +kernel
theorem dX10_drags_55 : decode cX10_drags 55 = .ok (.aload_n 0, 1) := by decide +kernel
theorem dX10_drags_56 : decode cX10_drags 56 = .ok (.iload_n 1, 1) := by decide +kernel
theorem dX10_drags_57 : decode cX10_drags 57 = .ok (.iload_n 2, 1) := by decide +kernel
theorem dX10_drags_58 : decode cX10_drags 58 = .ok (.iload_n 3, 1) := by decide +kernel
theorem dX10_drags_59 : decode cX10_drags 59 = .ok (.iload 4, 2) := by decide +kernel
theorem dX10_drags_61 : decode cX10_drags 61 = .ok (.invokevirtual 263, 3) := by decide +kernel
theorem dX10_drags_64 : decode cX10_drags 64 = .ok (.iload 6, 2) := by decide +kernel
theorem dX10_drags_66 : decode cX10_drags 66 = .ok (.iadd, 1) := by decide +kernel
theorem dX10_drags_67 : decode cX10_drags 67 = .ok (.if_icmp .le 7, 3) := by decide +kernel
theorem dX10_drags_70 : decode cX10_drags 70 = .ok (.iconst 1, 1) := by decide +kernel
theorem dX10_drags_71 : decode cX10_drags 71 = .ok (.goto 4, 3) := by decide +kernel
theorem dX10_drags_74 : decode cX10_drags 74 = .ok (.iconst 0, 1) := by decide +kernel
theorem dX10_drags_75 : decode cX10_drags 75 = .ok (.ireturn, 1) := by decide +kernel
theorem dX10_further_0 : decode cX10_further 0 = .ok (.iload_n 1, 1) := by decide +kernel
theorem dX10_further_1 : decode cX10_further 1 = .ok (.bipush 10, 2) := by decide +kernel
theorem dX10_further_3 : decode cX10_further 3 = .ok (.irem, 1) := by decide +kernel
theorem dX10_further_4 : decode cX10_further 4 = .ok (.aload_n 0, 1) := by decide +kernel
theorem dX10_further_5 : decode cX10_further 5 = .ok (.getfield 25, 3) := by decide +kernel
theorem dX10_further_8 : decode cX10_further 8 = .ok (.aload_n 0, 1) := by decide +kernel
theorem dX10_further_9 : decode cX10_further 9 = .ok (.getfield 16, 3) := by decide +kernel
theorem dX10_further_12 : decode cX10_further 12 = .ok (.iload_n 2, 1) := by decide +kernel
theorem dX10_further_13 : decode cX10_further 13 = .ok (.iaload, 1) := by decide +kernel
theorem dX10_further_14 : decode cX10_further 14 = .ok (.iaload, 1) := by decide +kernel
theorem dX10_further_15 : decode cX10_further 15 = .ok (.iadd, 1) := by decide +kernel
theorem dX10_further_16 : decode cX10_further 16 = .ok (.istore_n 3, 1) := by decide +kernel
theorem dX10_further_17 : decode cX10_further 17 = .ok (.iload_n 1, 1) := by decide +kernel
theorem dX10_further_18 : decode cX10_further 18 = .ok (.bipush 10, 2) := by decide +kernel
theorem dX10_further_20 : decode cX10_further 20 = .ok (.idiv, 1) := by decide +kernel
theorem dX10_further_21 : decode cX10_further 21 = .ok (.aload_n 0, 1) := by decide +kernel
theorem dX10_further_22 : decode cX10_further 22 = .ok (.getfield 28, 3) := by decide +kernel
theorem dX10_further_25 : decode cX10_further 25 = .ok (.aload_n 0, 1) := by decide +kernel
theorem dX10_further_26 : decode cX10_further 26 = .ok (.getfield 16, 3) := by decide +kernel
theorem dX10_further_29 : decode cX10_further 29 = .ok (.iload_n 2, 1) := by decide +kernel
theorem dX10_further_30 : decode cX10_further 30 = .ok (.iaload, 1) := by decide +kernel
theorem dX10_further_31 : decode cX10_further 31 = .ok (.iaload, 1) := by decide +kernel
theorem dX10_further_32 : decode cX10_further 32 = .ok (.iadd, 1) := by decide +kernel
theorem dX10_further_33 : decode cX10_further 33 = .ok (.istore 4, 2) := by decide +kernel
theorem dX10_further_35 : decode cX10_further 35 = .ok (.iload_n 3, 1) := by decide +kernel
theorem dX10_further_36 : decode cX10_further 36 = .ok (.iload 4, 2) := by decide +kernel
theorem dX10_further_38 : decode cX10_further 38 = .ok (.invokestatic 253, 3) := by decide +kernel
theorem dX10_further_41 : decode cX10_further 41 = .ok (.ifCond .eq 13, 3) := by decide +kernel
theorem dX10_further_44 : decode cX10_further 44 = .ok (.bipush 10, 2) := by decide +kernel
theorem dX10_further_46 : decode cX10_further 46 = .ok (.iload 4, 2) := by decide +kernel
theorem dX10_further_48 : decode cX10_further 48 = .ok (.imul, 1) := by decide +kernel
theorem dX10_further_49 : decode cX10_further 49 = .ok (.iload_n 3, 1) := by decide +kernel
theorem dX10_further_50 : decode cX10_further 50 = .ok (.iadd, 1) := by decide +kernel
theorem dX10_further_51 : decode cX10_further 51 = .ok (.goto 4, 3) := by decide +kernel
theorem dX10_further_54 : decode cX10_further 54 = .ok (.iconst (-1), 1) := by decide +kernel
theorem dX10_further_55 : decode cX10_further 55 = .ok (.ireturn, 1) := by decide +kernel
theorem dX10_begins_0 : decode cX10_begins 0 = .ok (.iconst 0, 1) := by decide +kernel
theorem dX10_begins_1 : decode cX10_begins 1 = .ok (.istore_n 1, 1) := by decide +kernel
theorem dX10_begins_2 : decode cX10_begins 2 = .ok (.iload_n 1, 1) := by decide +kernel
theorem dX10_begins_3 : decode cX10_begins 3 = .ok (.bipush 6, 2) := by decide +kernel
theorem dX10_begins_5 : decode cX10_begins 5 = .ok (.if_icmp .ge 47, 3) := by decide +kernel
theorem dX10_begins_8 : decode cX10_begins 8 = .ok (.aload_n 0, 1) := by decide +kernel
theorem dX10_begins_9 : decode cX10_begins 9 = .ok (.getfield 103, 3) := by decide +kernel
theorem dX10_begins_12 : decode cX10_begins 12 = .ok (.iload_n 1, 1) := by decide +kernel
theorem dX10_begins_13 : decode cX10_begins 13 = .ok (.iload_n 1, 1) := by decide +kernel
theorem dX10_begins_14 : decode cX10_begins 14 = .ok (.aload_n 0, 1) := by decide +kernel
theorem dX10_begins_15 : decode cX10_begins 15 = .ok (.getfield 136, 3) := by decide +kernel
theorem dX10_begins_18 : decode cX10_begins 18 = .ok (.if_icmp .ge 12, 3) := by decide +kernel
theorem dX10_begins_21 : decode cX10_begins 21 = .ok (.aload_n 0, 1) := by decide +kernel
theorem dX10_begins_22 : decode cX10_begins 22 = .ok (.getfield 43, 3) := by decide +kernel
theorem dX10_begins_25 : decode cX10_begins 25 = .ok (.iload_n 1, 1) := by decide +kernel
theorem dX10_begins_26 : decode cX10_begins 26 = .ok (.iaload, 1) := by decide +kernel
theorem dX10_begins_27 : decode cX10_begins 27 = .ok (.goto 4, 3) := by decide +kernel
theorem dX10_begins_30 : decode cX10_begins 30 = .ok (.iconst (-1), 1) := by decide +kernel
theorem dX10_begins_31 : decode cX10_begins 31 = .ok (.iastore, 1) := by decide +kernel
theorem dX10_begins_32 : decode cX10_begins 32 = .ok (.aload_n 0, 1) := by decide +kernel
theorem dX10_begins_33 : decode cX10_begins 33 = .ok (.getfield 106, 3) := by decide +kernel
theorem dX10_begins_36 : decode cX10_begins 36 = .ok (.iload_n 1, 1) := by decide +kernel
theorem dX10_begins_37 : decode cX10_begins 37 = .ok (.iconst 0, 1) := by decide +kernel
theorem dX10_begins_38 : decode cX10_begins 38 = .ok (.iastore, 1) := by decide +kernel
theorem dX10_begins_39 : decode cX10_begins 39 = .ok (.aload_n 0, 1) := by decide +kernel
theorem dX10_begins_40 : decode cX10_begins 40 = .ok (.getfield 109, 3) := by decide +kernel
theorem dX10_begins_43 : decode cX10_begins 43 = .ok (.iload_n 1, 1) := by decide +kernel
theorem dX10_begins_44 : decode cX10_begins 44 = .ok (.iconst (-1), 1) := by decide +kernel
theorem dX10_begins_45 : decode cX10_begins 45 = .ok (.iastore, 1) := by decide +kernel
theorem dX10_begins_46 : decode cX10_begins 46 = .ok (.iinc 1 1, 3) := by decide +kernel
theorem dX10_begins_49 : decode cX10_begins 49 = .ok (.goto (-47), 3) := by decide +kernel
theorem dX10_begins_52 : decode cX10_begins 52 = .ok (.aload_n 0, 1) := by decide +kernel
theorem dX10_begins_53 : decode cX10_begins 53 = .ok (.iconst 0, 1) := by decide +kernel
theorem dX10_begins_54 : decode cX10_begins 54 = .ok (.putfield 272, 3) := by decide +kernel
theorem dX10_begins_57 : decode cX10_begins 57 = .ok (.return_, 1) := by decide +kernel
theorem dX10_passes_0 : decode cX10_passes 0 = .ok (.iconst 0, 1) := by decide +kernel
theorem dX10_passes_1 : decode cX10_passes 1 = .ok (.istore_n 2, 1) := by decide +kernel
theorem dX10_passes_2 : decode cX10_passes 2 = .ok (.iload_n 2, 1) := by decide +kernel
theorem dX10_passes_3 : decode cX10_passes 3 = .ok (.aload_n 0, 1) := by decide +kernel
theorem dX10_passes_4 : decode cX10_passes 4 = .ok (.getfield 136, 3) := by decide +kernel
theorem dX10_passes_7 : decode cX10_passes 7 = .ok (.if_icmp .ge 95, 3) := by decide +kernel
theorem dX10_passes_10 : decode cX10_passes 10 = .ok (.aload_n 0, 1) := by decide +kernel
theorem dX10_passes_11 : decode cX10_passes 11 = .ok (.getfield 103, 3) := by decide +kernel
theorem dX10_passes_14 : decode cX10_passes 14 = .ok (.iload_n 2, 1) := by decide +kernel
theorem dX10_passes_15 : decode cX10_passes 15 = .ok (.iaload, 1) := by decide +kernel
theorem dX10_passes_16 : decode cX10_passes 16 = .ok (.iconst (-1), 1) := by decide +kernel
theorem dX10_passes_17 : decode cX10_passes 17 = .ok (.if_icmp .eq 79, 3) := by decide +kernel
theorem dX10_passes_20 : decode cX10_passes 20 = .ok (.aload_n 0, 1) := by decide +kernel
theorem dX10_passes_21 : decode cX10_passes 21 = .ok (.iload_n 2, 1) := by decide +kernel
theorem dX10_passes_22 : decode cX10_passes 22 = .ok (.aload_n 0, 1) := by decide +kernel
theorem dX10_passes_23 : decode cX10_passes 23 = .ok (.getfield 103, 3) := by decide +kernel
theorem dX10_passes_26 : decode cX10_passes 26 = .ok (.iload_n 2, 1) := by decide +kernel
theorem dX10_passes_27 : decode cX10_passes 27 = .ok (.iaload, 1) := by decide +kernel
theorem dX10_passes_28 : decode cX10_passes 28 = .ok (.iload_n 1, 1) := by decide +kernel
theorem dX10_passes_29 : decode cX10_passes 29 = .ok (.aload_n 0, 1) := by decide +kernel
theorem dX10_passes_30 : decode cX10_passes 30 = .ok (.getfield 46, 3) := by decide +kernel
theorem dX10_passes_33 : decode cX10_passes 33 = .ok (.iload_n 2, 1) := by decide +kernel
theorem dX10_passes_34 : decode cX10_passes 34 = .ok (.iaload, 1) := by decide +kernel
theorem dX10_passes_35 : decode cX10_passes 35 = .ok (.iconst 0, 1) := by decide +kernel
theorem dX10_passes_36 : decode cX10_passes 36 = .ok (.iconst 0, 1) := by decide +kernel
theorem dX10_passes_37 : decode cX10_passes 37 = .ok (.invokevirtual 275, 3) := by decide +kernel
theorem dX10_passes_40 : decode cX10_passes 40 = .ok (.ifCond .eq 56, 3) := by decide +kernel
theorem dX10_passes_43 : decode cX10_passes 43 = .ok (.aload_n 0, 1) := by decide +kernel
theorem dX10_passes_44 : decode cX10_passes 44 = .ok (.getfield 103, 3) := by decide +kernel
theorem dX10_passes_47 : decode cX10_passes 47 = .ok (.iload_n 2, 1) := by decide +kernel
theorem dX10_passes_48 : decode cX10_passes 48 = .ok (.aload_n 0, 1) := by decide +kernel
theorem dX10_passes_49 : decode cX10_passes 49 = .ok (.aload_n 0, 1) := by decide +kernel
theorem dX10_passes_50 : decode cX10_passes 50 = .ok (.getfield 103, 3) := by decide +kernel
theorem dX10_passes_53 : decode cX10_passes 53 = .ok (.iload_n 2, 1) := by decide +kernel
theorem dX10_passes_54 : decode cX10_passes 54 = .ok (.iaload, 1) := by decide +kernel
theorem dX10_passes_55 : decode cX10_passes 55 = .ok (.iload_n 1, 1) := by decide +kernel
theorem dX10_passes_56 : decode cX10_passes 56 = .ok (.invokevirtual 279, 3) := by decide +kernel
theorem dX10_passes_59 : decode cX10_passes 59 = .ok (.iastore, 1) := by decide +kernel
theorem dX10_passes_60 : decode cX10_passes 60 = .ok (.aload_n 0, 1) := by decide +kernel
theorem dX10_passes_61 : decode cX10_passes 61 = .ok (.getfield 106, 3) := by decide +kernel
theorem dX10_passes_64 : decode cX10_passes 64 = .ok (.iload_n 2, 1) := by decide +kernel
theorem dX10_passes_65 : decode cX10_passes 65 = .ok (.dup2, 1) := by decide +kernel
theorem dX10_passes_66 : decode cX10_passes 66 = .ok (.iaload, 1) := by decide +kernel
theorem dX10_passes_67 : decode cX10_passes 67 = .ok (.iconst 1, 1) := by decide +kernel
theorem dX10_passes_68 : decode cX10_passes 68 = .ok (.iadd, 1) := by decide +kernel
theorem dX10_passes_69 : decode cX10_passes 69 = .ok (.iastore, 1) := by decide +kernel
theorem dX10_passes_70 : decode cX10_passes 70 = .ok (.aload_n 0, 1) := by decide +kernel
theorem dX10_passes_71 : decode cX10_passes 71 = .ok (.getfield 109, 3) := by decide +kernel
theorem dX10_passes_74 : decode cX10_passes 74 = .ok (.iload_n 2, 1) := by decide +kernel
theorem dX10_passes_75 : decode cX10_passes 75 = .ok (.aload_n 0, 1) := by decide +kernel
theorem dX10_passes_76 : decode cX10_passes 76 = .ok (.getfield 109, 3) := by decide +kernel
theorem dX10_passes_79 : decode cX10_passes 79 = .ok (.iload_n 2, 1) := by decide +kernel
theorem dX10_passes_80 : decode cX10_passes 80 = .ok (.iaload, 1) := by decide +kernel
theorem dX10_passes_81 : decode cX10_passes 81 = .ok (.iconst (-1), 1) := by decide +kernel
theorem dX10_passes_82 : decode cX10_passes 82 = .ok (.if_icmp .ne 7, 3) := by decide +kernel
theorem dX10_passes_85 : decode cX10_passes 85 = .ok (.iload_n 1, 1) := by decide +kernel
theorem dX10_passes_86 : decode cX10_passes 86 = .ok (.goto 9, 3) := by decide +kernel
theorem dX10_passes_89 : decode cX10_passes 89 = .ok (.aload_n 0, 1) := by decide +kernel
theorem dX10_passes_90 : decode cX10_passes 90 = .ok (.getfield 109, 3) := by decide +kernel
theorem dX10_passes_93 : decode cX10_passes 93 = .ok (.iload_n 2, 1) := by decide +kernel
theorem dX10_passes_94 : decode cX10_passes 94 = .ok (.iaload, 1) := by decide +kernel
theorem dX10_passes_95 : decode cX10_passes 95 = .ok (.iastore, 1) := by decide +kernel
theorem dX10_passes_96 : decode cX10_passes 96 = .ok (.iinc 2 1, 3) := by decide +kernel
theorem dX10_passes_99 : decode cX10_passes 99 = .ok (.goto (-97), 3) := by decide +kernel
theorem dX10_passes_102 : decode cX10_passes 102 = .ok (.iconst 0, 1) := by decide +kernel
theorem dX10_passes_103 : decode cX10_passes 103 = .ok (.istore_n 2, 1) := by decide +kernel
theorem dX10_passes_104 : decode cX10_passes 104 = .ok (.iload_n 2, 1) := by decide +kernel
theorem dX10_passes_105 : decode cX10_passes 105 = .ok (.aload_n 0, 1) := by decide +kernel
theorem dX10_passes_106 : decode cX10_passes 106 = .ok (.getfield 136, 3) := by decide +kernel
theorem dX10_passes_109 : decode cX10_passes 109 = .ok (.if_icmp .ge 67, 3) := by decide +kernel
theorem dX10_passes_112 : decode cX10_passes 112 = .ok (.aload_n 0, 1) := by decide +kernel
theorem dX10_passes_113 : decode cX10_passes 113 = .ok (.getfield 112, 3) := by decide +kernel
theorem dX10_passes_116 : decode cX10_passes 116 = .ok (.bipush 6, 2) := by decide +kernel
theorem dX10_passes_118 : decode cX10_passes 118 = .ok (.iload_n 1, 1) := by decide +kernel
theorem dX10_passes_119 : decode cX10_passes 119 = .ok (.imul, 1) := by decide +kernel
theorem dX10_passes_120 : decode cX10_passes 120 = .ok (.iload_n 2, 1) := by decide +kernel
theorem dX10_passes_121 : decode cX10_passes 121 = .ok (.iadd, 1) := by decide +kernel
theorem dX10_passes_122 : decode cX10_passes 122 = .ok (.aload_n 0, 1) := by decide +kernel
theorem dX10_passes_123 : decode cX10_passes 123 = .ok (.getfield 103, 3) := by decide +kernel
theorem dX10_passes_126 : decode cX10_passes 126 = .ok (.iload_n 2, 1) := by decide +kernel
theorem dX10_passes_127 : decode cX10_passes 127 = .ok (.iaload, 1) := by decide +kernel
theorem dX10_passes_128 : decode cX10_passes 128 = .ok (.iconst (-1), 1) := by decide +kernel
theorem dX10_passes_129 : decode cX10_passes 129 = .ok (.if_icmp .ne 7, 3) := by decide +kernel
theorem dX10_passes_132 : decode cX10_passes 132 = .ok (.iconst (-1), 1) := by decide +kernel
theorem dX10_passes_133 : decode cX10_passes 133 = .ok (.goto 36, 3) := by decide +kernel
theorem dX10_passes_136 : decode cX10_passes 136 = .ok (.aload_n 0, 1) := by decide +kernel
theorem dX10_passes_137 : decode cX10_passes 137 = .ok (.aload_n 0, 1) := by decide +kernel
theorem dX10_passes_138 : decode cX10_passes 138 = .ok (.getfield 103, 3) := by decide +kernel
theorem dX10_passes_141 : decode cX10_passes 141 = .ok (.iload_n 2, 1) := by decide +kernel
theorem dX10_passes_142 : decode cX10_passes 142 = .ok (.iaload, 1) := by decide +kernel
theorem dX10_passes_143 : decode cX10_passes 143 = .ok (.aload_n 0, 1) := by decide +kernel
theorem dX10_passes_144 : decode cX10_passes 144 = .ok (.getfield 16, 3) := by decide +kernel
theorem dX10_passes_147 : decode cX10_passes 147 = .ok (.iload_n 1, 1) := by decide +kernel
theorem dX10_passes_148 : decode cX10_passes 148 = .ok (.iaload, 1) := by decide +kernel
theorem dX10_passes_149 : decode cX10_passes 149 = .ok (.aload_n 0, 1) := by decide +kernel
theorem dX10_passes_150 : decode cX10_passes 150 = .ok (.aload_n 0, 1) := by decide +kernel
theorem dX10_passes_151 : decode cX10_passes 151 = .ok (.getfield 103, 3) := by decide +kernel
theorem dX10_passes_154 : decode cX10_passes 154 = .ok (.iload_n 2, 1) := by decide +kernel
theorem dX10_passes_155 : decode cX10_passes 155 = .ok (.iaload, 1) := by decide +kernel
theorem dX10_passes_156 : decode cX10_passes 156 = .ok (.iload_n 1, 1) := by decide +kernel
theorem dX10_passes_157 : decode cX10_passes 157 = .ok (.aload_n 0, 1) := by decide +kernel
theorem dX10_passes_158 : decode cX10_passes 158 = .ok (.getfield 46, 3) := by decide +kernel
theorem dX10_passes_161 : decode cX10_passes 161 = .ok (.iload_n 2, 1) := by decide +kernel
theorem dX10_passes_162 : decode cX10_passes 162 = .ok (.iaload, 1) := by decide +kernel
theorem dX10_passes_163 : decode cX10_passes 163 = .ok (.invokevirtual 266, 3) := by decide +kernel
theorem dX10_passes_166 : decode cX10_passes 166 = .ok (.invokevirtual 282, 3) := by decide +kernel
theorem dX10_passes_169 : decode cX10_passes 169 = .ok (.iastore, 1) := by decide +kernel
theorem dX10_passes_170 : decode cX10_passes 170 = .ok (.iinc 2 1, 3) := by decide +kernel
theorem dX10_passes_173 : decode cX10_passes 173 = .ok (.goto (-69), 3) := by decide +kernel
theorem dX10_passes_176 : decode cX10_passes 176 = .ok (.iconst 0, 1) := by decide +kernel
theorem dX10_passes_177 : decode cX10_passes 177 = .ok (.istore_n 2, 1) := by decide +kernel
theorem dX10_passes_178 : decode cX10_passes 178 = .ok (.iload_n 2, 1) := by decide +kernel
theorem dX10_passes_179 : decode cX10_passes 179 = .ok (.aload_n 0, 1) := by decide +kernel
theorem dX10_passes_180 : decode cX10_passes 180 = .ok (.getfield 136, 3) := by decide +kernel
theorem dX10_passes_183 : decode cX10_passes 183 = .ok (.if_icmp .ge 107, 3) := by decide +kernel
theorem dX10_passes_186 : decode cX10_passes 186 = .ok (.iload_n 2, 1) := by decide +kernel
theorem dX10_passes_187 : decode cX10_passes 187 = .ok (.iconst 1, 1) := by decide +kernel
theorem dX10_passes_188 : decode cX10_passes 188 = .ok (.iadd, 1) := by decide +kernel
theorem dX10_passes_189 : decode cX10_passes 189 = .ok (.istore_n 3, 1) := by decide +kernel
theorem dX10_passes_190 : decode cX10_passes 190 = .ok (.iload_n 3, 1) := by decide +kernel
theorem dX10_passes_191 : decode cX10_passes 191 = .ok (.aload_n 0, 1) := by decide +kernel
theorem dX10_passes_192 : decode cX10_passes 192 = .ok (.getfield 136, 3) := by decide +kernel
theorem dX10_passes_195 : decode cX10_passes 195 = .ok (.if_icmp .ge 89, 3) := by decide +kernel
theorem dX10_passes_198 : decode cX10_passes 198 = .ok (.aload_n 0, 1) := by decide +kernel
theorem dX10_passes_199 : decode cX10_passes 199 = .ok (.getfield 112, 3) := by decide +kernel
theorem dX10_passes_202 : decode cX10_passes 202 = .ok (.bipush 6, 2) := by decide +kernel
theorem dX10_passes_204 : decode cX10_passes 204 = .ok (.iload_n 1, 1) := by decide +kernel
theorem dX10_passes_205 : decode cX10_passes 205 = .ok (.imul, 1) := by decide +kernel
theorem dX10_passes_206 : decode cX10_passes 206 = .ok (.iload_n 2, 1) := by decide +kernel
theorem dX10_passes_207 : decode cX10_passes 207 = .ok (.iadd, 1) := by decide +kernel
theorem dX10_passes_208 : decode cX10_passes 208 = .ok (.iaload, 1) := by decide +kernel
theorem dX10_passes_209 : decode cX10_passes 209 = .ok (.iconst (-1), 1) := by decide +kernel
theorem dX10_passes_210 : decode cX10_passes 210 = .ok (.if_icmp .eq 68, 3) := by decide +kernel
theorem dX10_passes_213 : decode cX10_passes 213 = .ok (.aload_n 0, 1) := by decide +kernel
theorem dX10_passes_214 : decode cX10_passes 214 = .ok (.getfield 112, 3) := by decide +kernel
theorem dX10_passes_217 : decode cX10_passes 217 = .ok (.bipush 6, 2) := by decide +kernel
theorem dX10_passes_219 : decode cX10_passes 219 = .ok (.iload_n 1, 1) := by decide +kernel
theorem dX10_passes_220 : decode cX10_passes 220 = .ok (.imul, 1) := by decide +kernel
theorem dX10_passes_221 : decode cX10_passes 221 = .ok (.iload_n 2, 1) := by decide +kernel
theorem dX10_passes_222 : decode cX10_passes 222 = .ok (.iadd, 1) := by decide +kernel
theorem dX10_passes_223 : decode cX10_passes 223 = .ok (.iaload, 1) := by decide +kernel
theorem dX10_passes_224 : decode cX10_passes 224 = .ok (.aload_n 0, 1) := by decide +kernel
theorem dX10_passes_225 : decode cX10_passes 225 = .ok (.getfield 112, 3) := by decide +kernel
theorem dX10_passes_228 : decode cX10_passes 228 = .ok (.bipush 6, 2) := by decide +kernel
theorem dX10_passes_230 : decode cX10_passes 230 = .ok (.iload_n 1, 1) := by decide +kernel
theorem dX10_passes_231 : decode cX10_passes 231 = .ok (.imul, 1) := by decide +kernel
theorem dX10_passes_232 : decode cX10_passes 232 = .ok (.iload_n 3, 1) := by decide +kernel
theorem dX10_passes_233 : decode cX10_passes 233 = .ok (.iadd, 1) := by decide +kernel
theorem dX10_passes_234 : decode cX10_passes 234 = .ok (.iaload, 1) := by decide +kernel
theorem dX10_passes_235 : decode cX10_passes 235 = .ok (.if_icmp .ne 43, 3) := by decide +kernel
theorem dX10_passes_238 : decode cX10_passes 238 = .ok (.aload_n 0, 1) := by decide +kernel
theorem dX10_passes_239 : decode cX10_passes 239 = .ok (.getfield 115, 3) := by decide +kernel
theorem dX10_passes_242 : decode cX10_passes 242 = .ok (.aload_n 0, 1) := by decide +kernel
theorem dX10_passes_243 : decode cX10_passes 243 = .ok (.getfield 272, 3) := by decide +kernel
theorem dX10_passes_246 : decode cX10_passes 246 = .ok (.iload_n 1, 1) := by decide +kernel
theorem dX10_passes_247 : decode cX10_passes 247 = .ok (.iastore, 1) := by decide +kernel
theorem dX10_passes_248 : decode cX10_passes 248 = .ok (.aload_n 0, 1) := by decide +kernel
theorem dX10_passes_249 : decode cX10_passes 249 = .ok (.getfield 118, 3) := by decide +kernel
theorem dX10_passes_252 : decode cX10_passes 252 = .ok (.aload_n 0, 1) := by decide +kernel
theorem dX10_passes_253 : decode cX10_passes 253 = .ok (.getfield 272, 3) := by decide +kernel
theorem dX10_passes_256 : decode cX10_passes 256 = .ok (.iload_n 2, 1) := by decide +kernel
theorem dX10_passes_257 : decode cX10_passes 257 = .ok (.iastore, 1) := by decide +kernel
theorem dX10_passes_258 : decode cX10_passes 258 = .ok (.aload_n 0, 1) := by decide +kernel
theorem dX10_passes_259 : decode cX10_passes 259 = .ok (.getfield 121, 3) := by decide +kernel
theorem dX10_passes_262 : decode cX10_passes 262 = .ok (.aload_n 0, 1) := by decide +kernel
theorem dX10_passes_263 : decode cX10_passes 263 = .ok (.getfield 272, 3) := by decide +kernel
theorem dX10_passes_266 : decode cX10_passes 266 = .ok (.iload_n 3, 1) := by decide +kernel
theorem dX10_passes_267 : decode cX10_passes 267 = .ok (.iastore, 1) := by decide +kernel
theorem dX10_passes_268 : decode cX10_passes 268 = .ok (.aload_n 0, 1) := by decide +kernel
theorem dX10_passes_269 : decode cX10_passes 269 = .ok (.dup, 1) := by decide +kernel
theorem dX10_passes_270 : decode cX10_passes 270 = .ok (.getfield 272, 3) := by decide +kernel
theorem dX10_passes_273 : decode cX10_passes 273 = .ok (.iconst 1, 1) := by decide +kernel
theorem dX10_passes_274 : decode cX10_passes 274 = .ok (.iadd, 1) := by decide +kernel
theorem dX10_passes_275 : decode cX10_passes 275 = .ok (.putfield 272, 3) := by decide +kernel
theorem dX10_passes_278 : decode cX10_passes 278 = .ok (.iinc 3 1, 3) := by decide +kernel
theorem dX10_passes_281 : decode cX10_passes 281 = .ok (.goto (-91), 3) := by decide +kernel
theorem dX10_passes_284 : decode cX10_passes 284 = .ok (.iinc 2 1, 3) := by decide +kernel
theorem dX10_passes_287 : decode cX10_passes 287 = .ok (.goto (-109), 3) := by decide +kernel
theorem dX10_passes_290 : decode cX10_passes 290 = .ok (.return_, 1) := by decide +kernel
theorem dX10_goes_0 : decode cX10_goes 0 = .ok (.aload_n 0, 1) := by decide +kernel
theorem dX10_goes_1 : decode cX10_goes 1 = .ok (.invokevirtual 285, 3) := by decide +kernel
theorem dX10_goes_4 : decode cX10_goes 4 = .ok (.aload_n 0, 1) := by decide +kernel
theorem dX10_goes_5 : decode cX10_goes 5 = .ok (.getfield 139, 3) := by decide +kernel
theorem dX10_goes_8 : decode cX10_goes 8 = .ok (.istore_n 2, 1) := by decide +kernel
theorem dX10_goes_9 : decode cX10_goes 9 = .ok (.iload_n 2, 1) := by decide +kernel
theorem dX10_goes_10 : decode cX10_goes 10 = .ok (.aload_n 0, 1) := by decide +kernel
theorem dX10_goes_11 : decode cX10_goes 11 = .ok (.getfield 139, 3) := by decide +kernel
theorem dX10_goes_14 : decode cX10_goes 14 = .ok (.iload_n 1, 1) := by decide +kernel
theorem dX10_goes_15 : decode cX10_goes 15 = .ok (.iadd, 1) := by decide +kernel
theorem dX10_goes_16 : decode cX10_goes 16 = .ok (.if_icmp .ge 14, 3) := by decide +kernel
theorem dX10_goes_19 : decode cX10_goes 19 = .ok (.aload_n 0, 1) := by decide +kernel
theorem dX10_goes_20 : decode cX10_goes 20 = .ok (.iload_n 2, 1) := by decide +kernel
theorem dX10_goes_21 : decode cX10_goes 21 = .ok (.invokevirtual 288, 3) := by decide +kernel
theorem dX10_goes_24 : decode cX10_goes 24 = .ok (.iinc 2 1, 3) := by decide +kernel
theorem dX10_goes_27 : decode cX10_goes 27 = .ok (.goto (-18), 3) := by decide +kernel
theorem dX10_goes_30 : decode cX10_goes 30 = .ok (.return_, 1) := by decide +kernel
theorem dX10_night_0 : decode cX10_night 0 = .ok (.aload_n 0, 1) := by decide +kernel
theorem dX10_night_1 : decode cX10_night 1 = .ok (.iload_n 2, 1) := by decide +kernel
theorem dX10_night_2 : decode cX10_night 2 = .ok (.invokevirtual 236, 3) := by decide +kernel
theorem dX10_night_5 : decode cX10_night 5 = .ok (.ifCond .ne 6, 3) := by decide +kernel
theorem dX10_night_8 : decode cX10_night 8 = .ok (.bipush (-5), 2) := by decide +kernel
theorem dX10_night_10 : decode cX10_night 10 = .ok (.ireturn, 1) := by decide +kernel
theorem dX10_night_11 : decode cX10_night 11 = .ok (.aload_n 0, 1) := by decide +kernel
theorem dX10_night_12 : decode cX10_night 12 = .ok (.iload_n 1, 1) := by decide +kernel
theorem dX10_night_13 : decode cX10_night 13 = .ok (.invokevirtual 291, 3) := by decide +kernel
theorem dX10_night_16 : decode cX10_night 16 = .ok (.ifCond .eq 12, 3) := by decide +kernel
theorem dX10_night_19 : decode cX10_night 19 = .ok (.iload_n 3, 1) := by decide +kernel
theorem dX10_night_20 : decode cX10_night 20 = .ok (.iconst 0, 1) := by decide +kernel
theorem dX10_night_21 : decode cX10_night 21 = .ok (.iconst 3, 1) := by decide +kernel
theorem dX10_night_22 : decode cX10_night 22 = .ok (.invokestatic 132, 3) := by decide +kernel
theorem dX10_night_25 : decode cX10_night 25 = .ok (.ifCond .ne 6, 3) := by decide +kernel
theorem dX10_night_28 : decode cX10_night 28 = .ok (.bipush (-7), 2) := by decide +kernel
theorem dX10_night_30 : decode cX10_night 30 = .ok (.ireturn, 1) := by decide +kernel
theorem dX10_night_31 : decode cX10_night 31 = .ok (.aload_n 0, 1) := by decide +kernel
theorem dX10_night_32 : decode cX10_night 32 = .ok (.iload_n 1, 1) := by decide +kernel
theorem dX10_night_33 : decode cX10_night 33 = .ok (.invokevirtual 294, 3) := by decide +kernel
theorem dX10_night_36 : decode cX10_night 36 = .ok (.iload_n 3, 1) := by decide +kernel
theorem dX10_night_37 : decode cX10_night 37 = .ok (.ifCond .ne 12, 3) := by decide +kernel
theorem dX10_night_40 : decode cX10_night 40 = .ok (.aload_n 0, 1) := by decide +kernel
theorem dX10_night_41 : decode cX10_night 41 = .ok (.getfield 103, 3) := by decide +kernel
theorem dX10_night_44 : decode cX10_night 44 = .ok (.iload_n 2, 1) := by decide +kernel
theorem dX10_night_45 : decode cX10_night 45 = .ok (.iaload, 1) := by decide +kernel
theorem dX10_night_46 : decode cX10_night 46 = .ok (.goto 57, 3) := by decide +kernel
theorem dX10_night_49 : decode cX10_night 49 = .ok (.iload_n 3, 1) := by decide +kernel
theorem dX10_night_50 : decode cX10_night 50 = .ok (.iconst 1, 1) := by decide +kernel
theorem dX10_night_51 : decode cX10_night 51 = .ok (.if_icmp .ne 12, 3) := by decide +kernel
theorem dX10_night_54 : decode cX10_night 54 = .ok (.aload_n 0, 1) := by decide +kernel
theorem dX10_night_55 : decode cX10_night 55 = .ok (.getfield 106, 3) := by decide +kernel
theorem dX10_night_58 : decode cX10_night 58 = .ok (.iload_n 2, 1) := by decide +kernel
theorem dX10_night_59 : decode cX10_night 59 = .ok (.iaload, 1) := by decide +kernel
theorem dX10_night_60 : decode cX10_night 60 = .ok (.goto 43, 3) := by decide +kernel
theorem dX10_night_63 : decode cX10_night 63 = .ok (.iload_n 3, 1) := by decide +kernel
theorem dX10_night_64 : decode cX10_night 64 = .ok (.iconst 2, 1) := by decide +kernel
theorem dX10_night_65 : decode cX10_night 65 = .ok (.if_icmp .ne 12, 3) := by decide +kernel
theorem dX10_night_68 : decode cX10_night 68 = .ok (.aload_n 0, 1) := by decide +kernel
theorem dX10_night_69 : decode cX10_night 69 = .ok (.getfield 109, 3) := by decide +kernel
theorem dX10_night_72 : decode cX10_night 72 = .ok (.iload_n 2, 1) := by decide +kernel
theorem dX10_night_73 : decode cX10_night 73 = .ok (.iaload, 1) := by decide +kernel
theorem dX10_night_74 : decode cX10_night 74 = .ok (.goto 29, 3) := by decide +kernel
theorem dX10_night_77 : decode cX10_night 77 = .ok (.iload_n 1, 1) := by decide +kernel
theorem dX10_night_78 : decode cX10_night 78 = .ok (.ifCond .ne 7, 3) := by decide +kernel
theorem dX10_night_81 : decode cX10_night 81 = .ok (.iconst (-1), 1) := by decide +kernel
theorem dX10_night_82 : decode cX10_night 82 = .ok (.goto 21, 3) := by decide +kernel
theorem dX10_night_85 : decode cX10_night 85 = .ok (.aload_n 0, 1) := by decide +kernel
theorem dX10_night_86 : decode cX10_night 86 = .ok (.getfield 112, 3) := by decide +kernel
theorem dX10_night_89 : decode cX10_night 89 = .ok (.bipush 6, 2) := by decide +kernel
theorem dX10_night_91 : decode cX10_night 91 = .ok (.aload_n 0, 1) := by decide +kernel
theorem dX10_night_92 : decode cX10_night 92 = .ok (.getfield 139, 3) := by decide +kernel
theorem dX10_night_95 : decode cX10_night 95 = .ok (.iload_n 1, 1) := by decide +kernel
theorem dX10_night_96 : decode cX10_night 96 = .ok (.iadd, 1) := by decide +kernel
theorem dX10_night_97 : decode cX10_night 97 = .ok (.iconst 1, 1) := by decide +kernel
theorem dX10_night_98 : decode cX10_night 98 = .ok (.isub, 1) := by decide +kernel
theorem dX10_night_99 : decode cX10_night 99 = .ok (.imul, 1) := by decide +kernel
theorem dX10_night_100 : decode cX10_night 100 = .ok (.iload_n 2, 1) := by decide +kernel
theorem dX10_night_101 : decode cX10_night 101 = .ok (.iadd, 1) := by decide +kernel
theorem dX10_night_102 : decode cX10_night 102 = .ok (.iaload, 1) := by decide +kernel
theorem dX10_night_103 : decode cX10_night 103 = .ok (.ireturn, 1) := by decide +kernel
theorem dX10_fleet_0 : decode cX10_fleet 0 = .ok (.aload_n 0, 1) := by decide +kernel
theorem dX10_fleet_1 : decode cX10_fleet 1 = .ok (.iload_n 1, 1) := by decide +kernel
theorem dX10_fleet_2 : decode cX10_fleet 2 = .ok (.invokevirtual 291, 3) := by decide +kernel
theorem dX10_fleet_5 : decode cX10_fleet 5 = .ok (.ifCond .eq 12, 3) := by decide +kernel
theorem dX10_fleet_8 : decode cX10_fleet 8 = .ok (.iload_n 2, 1) := by decide +kernel
theorem dX10_fleet_9 : decode cX10_fleet 9 = .ok (.iconst 0, 1) := by decide +kernel
theorem dX10_fleet_10 : decode cX10_fleet 10 = .ok (.iconst 3, 1) := by decide +kernel
theorem dX10_fleet_11 : decode cX10_fleet 11 = .ok (.invokestatic 132, 3) := by decide +kernel
theorem dX10_fleet_14 : decode cX10_fleet 14 = .ok (.ifCond .ne 6, 3) := by decide +kernel
theorem dX10_fleet_17 : decode cX10_fleet 17 = .ok (.bipush (-2), 2) := by decide +kernel
theorem dX10_fleet_19 : decode cX10_fleet 19 = .ok (.ireturn, 1) := by decide +kernel
theorem dX10_fleet_20 : decode cX10_fleet 20 = .ok (.aload_n 0, 1) := by decide +kernel
theorem dX10_fleet_21 : decode cX10_fleet 21 = .ok (.iload_n 1, 1) := by decide +kernel
theorem dX10_fleet_22 : decode cX10_fleet 22 = .ok (.invokevirtual 294, 3) := by decide +kernel
theorem dX10_fleet_25 : decode cX10_fleet 25 = .ok (.iconst (-1), 1) := by decide +kernel
theorem dX10_fleet_26 : decode cX10_fleet 26 = .ok (.istore_n 3, 1) := by decide +kernel
theorem dX10_fleet_27 : decode cX10_fleet 27 = .ok (.iconst 0, 1) := by decide +kernel
theorem dX10_fleet_28 : decode cX10_fleet 28 = .ok (.istore 4, 2) := by decide +kernel
theorem dX10_fleet_30 : decode cX10_fleet 30 = .ok (.iconst 0, 1) := by decide +kernel
theorem dX10_fleet_31 : decode cX10_fleet 31 = .ok (.istore 5, 2) := by decide +kernel
theorem dX10_fleet_33 : decode cX10_fleet 33 = .ok (.iload 5, 2) := by decide +kernel
theorem dX10_fleet_35 : decode cX10_fleet 35 = .ok (.aload_n 0, 1) := by decide +kernel
theorem dX10_fleet_36 : decode cX10_fleet 36 = .ok (.getfield 136, 3) := by decide +kernel
theorem dX10_fleet_39 : decode cX10_fleet 39 = .ok (.if_icmp .ge 80, 3) := by decide +kernel
theorem dX10_fleet_42 : decode cX10_fleet 42 = .ok (.aload_n 0, 1) := by decide +kernel
theorem dX10_fleet_43 : decode cX10_fleet 43 = .ok (.getfield 109, 3) := by decide +kernel
theorem dX10_fleet_46 : decode cX10_fleet 46 = .ok (.iload 5, 2) := by decide +kernel
theorem dX10_fleet_48 : decode cX10_fleet 48 = .ok (.iaload, 1) := by decide +kernel
theorem dX10_fleet_49 : decode cX10_fleet 49 = .ok (.iconst (-1), 1) := by decide +kernel
theorem dX10_fleet_50 : decode cX10_fleet 50 = .ok (.if_icmp .eq 29, 3) := by decide +kernel
theorem dX10_fleet_53 : decode cX10_fleet 53 = .ok (.iload_n 3, 1) := by decide +kernel
theorem dX10_fleet_54 : decode cX10_fleet 54 = .ok (.iconst (-1), 1) := by decide +kernel
theorem dX10_fleet_55 : decode cX10_fleet 55 = .ok (.if_icmp .eq 19, 3) := by decide +kernel
theorem dX10_fleet_58 : decode cX10_fleet 58 = .ok (.aload_n 0, 1) := by decide +kernel
theorem dX10_fleet_59 : decode cX10_fleet 59 = .ok (.getfield 109, 3) := by decide +kernel
theorem dX10_fleet_62 : decode cX10_fleet 62 = .ok (.iload 5, 2) := by decide +kernel
theorem dX10_fleet_64 : decode cX10_fleet 64 = .ok (.iaload, 1) := by decide +kernel
theorem dX10_fleet_65 : decode cX10_fleet 65 = .ok (.aload_n 0, 1) := by decide +kernel
theorem dX10_fleet_66 : decode cX10_fleet 66 = .ok (.getfield 109, 3) := by decide +kernel
theorem dX10_fleet_69 : decode cX10_fleet 69 = .ok (.iload_n 3, 1) := by decide +kernel
theorem dX10_fleet_70 : decode cX10_fleet 70 = .ok (.iaload, 1) := by decide +kernel
theorem dX10_fleet_71 : decode cX10_fleet 71 = .ok (.if_icmp .ge 8, 3) := by decide +kernel
theorem dX10_fleet_74 : decode cX10_fleet 74 = .ok (.iload 5, 2) := by decide +kernel
theorem dX10_fleet_76 : decode cX10_fleet 76 = .ok (.goto 4, 3) := by decide +kernel
theorem dX10_fleet_79 : decode cX10_fleet 79 = .ok (.iload_n 3, 1) := by decide +kernel
theorem dX10_fleet_80 : decode cX10_fleet 80 = .ok (.istore_n 3, 1) := by decide +kernel
theorem dX10_fleet_81 : decode cX10_fleet 81 = .ok (.iload 4, 2) := by decide +kernel
theorem dX10_fleet_83 : decode cX10_fleet 83 = .ok (.aload_n 0, 1) := by decide +kernel
theorem dX10_fleet_84 : decode cX10_fleet 84 = .ok (.getfield 103, 3) := by decide +kernel
theorem dX10_fleet_87 : decode cX10_fleet 87 = .ok (.iload 5, 2) := by decide +kernel
theorem dX10_fleet_89 : decode cX10_fleet 89 = .ok (.iaload, 1) := by decide +kernel
theorem dX10_fleet_90 : decode cX10_fleet 90 = .ok (.iconst (-1), 1) := by decide +kernel
theorem dX10_fleet_91 : decode cX10_fleet 91 = .ok (.if_icmp .ne 18, 3) := by decide +kernel
theorem dX10_fleet_94 : decode cX10_fleet 94 = .ok (.aload_n 0, 1) := by decide +kernel
theorem dX10_fleet_95 : decode cX10_fleet 95 = .ok (.getfield 43, 3) := by decide +kernel
theorem dX10_fleet_98 : decode cX10_fleet 98 = .ok (.iload 5, 2) := by decide +kernel
theorem dX10_fleet_100 : decode cX10_fleet 100 = .ok (.iaload, 1) := by decide +kernel
theorem dX10_fleet_101 : decode cX10_fleet 101 = .ok (.iconst (-1), 1) := by decide +kernel
theorem dX10_fleet_102 : decode cX10_fleet 102 = .ok (.if_icmp .eq 7, 3) := by decide +kernel
theorem dX10_fleet_105 : decode cX10_fleet 105 = .ok (.iconst 1, 1) := by decide +kernel
theorem dX10_fleet_106 : decode cX10_fleet 106 = .ok (.goto 4, 3) := by decide +kernel
theorem dX10_fleet_109 : decode cX10_fleet 109 = .ok (.iconst 0, 1) := by decide +kernel
theorem dX10_fleet_110 : decode cX10_fleet 110 = .ok (.iadd, 1) := by decide +kernel
theorem dX10_fleet_111 : decode cX10_fleet 111 = .ok (.istore 4, 2) := by decide +kernel
theorem dX10_fleet_113 : decode cX10_fleet 113 = .ok (.iinc 5 1, 3) := by decide +kernel
theorem dX10_fleet_116 : decode cX10_fleet 116 = .ok (.goto (-83), 3) := by decide +kernel
theorem dX10_fleet_119 : decode cX10_fleet 119 = .ok (.iload_n 2, 1) := by decide +kernel
theorem dX10_fleet_120 : decode cX10_fleet 120 = .ok (.ifCond .ne 7, 3) := by decide +kernel
theorem dX10_fleet_123 : decode cX10_fleet 123 = .ok (.iload_n 3, 1) := by decide +kernel
theorem dX10_fleet_124 : decode cX10_fleet 124 = .ok (.goto 40, 3) := by decide +kernel
theorem dX10_fleet_127 : decode cX10_fleet 127 = .ok (.iload_n 2, 1) := by decide +kernel
theorem dX10_fleet_128 : decode cX10_fleet 128 = .ok (.iconst 1, 1) := by decide +kernel
theorem dX10_fleet_129 : decode cX10_fleet 129 = .ok (.if_icmp .ne 21, 3) := by decide +kernel
theorem dX10_fleet_132 : decode cX10_fleet 132 = .ok (.iload_n 3, 1) := by decide +kernel
theorem dX10_fleet_133 : decode cX10_fleet 133 = .ok (.iconst (-1), 1) := by decide +kernel
theorem dX10_fleet_134 : decode cX10_fleet 134 = .ok (.if_icmp .ne 7, 3) := by decide +kernel
theorem dX10_fleet_137 : decode cX10_fleet 137 = .ok (.iconst (-1), 1) := by decide +kernel
theorem dX10_fleet_138 : decode cX10_fleet 138 = .ok (.goto 26, 3) := by decide +kernel
theorem dX10_fleet_141 : decode cX10_fleet 141 = .ok (.aload_n 0, 1) := by decide +kernel
theorem dX10_fleet_142 : decode cX10_fleet 142 = .ok (.getfield 109, 3) := by decide +kernel
theorem dX10_fleet_145 : decode cX10_fleet 145 = .ok (.iload_n 3, 1) := by decide +kernel
theorem dX10_fleet_146 : decode cX10_fleet 146 = .ok (.iaload, 1) := by decide +kernel
theorem dX10_fleet_147 : decode cX10_fleet 147 = .ok (.goto 17, 3) := by decide +kernel
theorem dX10_fleet_150 : decode cX10_fleet 150 = .ok (.iload_n 2, 1) := by decide +kernel
theorem dX10_fleet_151 : decode cX10_fleet 151 = .ok (.iconst 2, 1) := by decide +kernel
theorem dX10_fleet_152 : decode cX10_fleet 152 = .ok (.if_icmp .ne 10, 3) := by decide +kernel
theorem dX10_fleet_155 : decode cX10_fleet 155 = .ok (.aload_n 0, 1) := by decide +kernel
theorem dX10_fleet_156 : decode cX10_fleet 156 = .ok (.getfield 272, 3) := by decide +kernel
theorem dX10_fleet_159 : decode cX10_fleet 159 = .ok (.goto 5, 3) := by decide +kernel
theorem dX10_fleet_162 : decode cX10_fleet 162 = .ok (.iload 4, 2) := by decide +kernel
theorem dX10_fleet_164 : decode cX10_fleet 164 = .ok (.ireturn, 1) := by decide +kernel
theorem dX10_hit_0 : decode cX10_hit 0 = .ok (.aload_n 0, 1) := by decide +kernel
theorem dX10_hit_1 : decode cX10_hit 1 = .ok (.iload_n 1, 1) := by decide +kernel
theorem dX10_hit_2 : decode cX10_hit 2 = .ok (.invokevirtual 291, 3) := by decide +kernel
theorem dX10_hit_5 : decode cX10_hit 5 = .ok (.ifCond .eq 12, 3) := by decide +kernel
theorem dX10_hit_8 : decode cX10_hit 8 = .ok (.iload_n 3, 1) := by decide +kernel
theorem dX10_hit_9 : decode cX10_hit 9 = .ok (.iconst 0, 1) := by decide +kernel
theorem dX10_hit_10 : decode cX10_hit 10 = .ok (.iconst 2, 1) := by decide +kernel
theorem dX10_hit_11 : decode cX10_hit 11 = .ok (.invokestatic 132, 3) := by decide +kernel
theorem dX10_hit_14 : decode cX10_hit 14 = .ok (.ifCond .ne 6, 3) := by decide +kernel
theorem dX10_hit_17 : decode cX10_hit 17 = .ok (.bipush (-2), 2) := by decide +kernel
theorem dX10_hit_19 : decode cX10_hit 19 = .ok (.ireturn, 1) := by decide +kernel
theorem dX10_hit_20 : decode cX10_hit 20 = .ok (.aload_n 0, 1) := by decide +kernel
theorem dX10_hit_21 : decode cX10_hit 21 = .ok (.iload_n 1, 1) := by decide +kernel
theorem dX10_hit_22 : decode cX10_hit 22 = .ok (.invokevirtual 294, 3) := by decide +kernel
theorem dX10_hit_25 : decode cX10_hit 25 = .ok (.iload_n 2, 1) := by decide +kernel
theorem dX10_hit_26 : decode cX10_hit 26 = .ok (.iconst 0, 1) := by decide +kernel
theorem dX10_hit_27 : decode cX10_hit 27 = .ok (.aload_n 0, 1) := by decide +kernel
theorem dX10_hit_28 : decode cX10_hit 28 = .ok (.getfield 272, 3) := by decide +kernel
theorem dX10_hit_31 : decode cX10_hit 31 = .ok (.iconst 1, 1) := by decide +kernel
theorem dX10_hit_32 : decode cX10_hit 32 = .ok (.isub, 1) := by decide +kernel
theorem dX10_hit_33 : decode cX10_hit 33 = .ok (.invokestatic 132, 3) := by decide +kernel
theorem dX10_hit_36 : decode cX10_hit 36 = .ok (.ifCond .ne 7, 3) := by decide +kernel
theorem dX10_hit_39 : decode cX10_hit 39 = .ok (.iconst (-1), 1) := by decide +kernel
theorem dX10_hit_40 : decode cX10_hit 40 = .ok (.goto 36, 3) := by decide +kernel
theorem dX10_hit_43 : decode cX10_hit 43 = .ok (.iload_n 3, 1) := by decide +kernel
theorem dX10_hit_44 : decode cX10_hit 44 = .ok (.ifCond .ne 12, 3) := by decide +kernel
theorem dX10_hit_47 : decode cX10_hit 47 = .ok (.aload_n 0, 1) := by decide +kernel
theorem dX10_hit_48 : decode cX10_hit 48 = .ok (.getfield 115, 3) := by decide +kernel
theorem dX10_hit_51 : decode cX10_hit 51 = .ok (.iload_n 2, 1) := by decide +kernel
theorem dX10_hit_52 : decode cX10_hit 52 = .ok (.iaload, 1) := by decide +kernel
theorem dX10_hit_53 : decode cX10_hit 53 = .ok (.goto 23, 3) := by decide +kernel
theorem dX10_hit_56 : decode cX10_hit 56 = .ok (.iload_n 3, 1) := by decide +kernel
theorem dX10_hit_57 : decode cX10_hit 57 = .ok (.iconst 1, 1) := by decide +kernel
theorem dX10_hit_58 : decode cX10_hit 58 = .ok (.if_icmp .ne 12, 3) := by decide +kernel
theorem dX10_hit_61 : decode cX10_hit 61 = .ok (.aload_n 0, 1) := by decide +kernel
theorem dX10_hit_62 : decode cX10_hit 62 = .ok (.getfield 118, 3) := by decide +kernel
theorem dX10_hit_65 : decode cX10_hit 65 = .ok (.iload_n 2, 1) := by decide +kernel
theorem dX10_hit_66 : decode cX10_hit 66 = .ok (.iaload, 1) := by decide +kernel
theorem dX10_hit_67 : decode cX10_hit 67 = .ok (.goto 9, 3) := by decide +kernel
theorem dX10_hit_70 : decode cX10_hit 70 = .ok (.aload_n 0, 1) := by decide +kernel
theorem dX10_hit_71 : decode cX10_hit 71 = .ok (.getfield 121, 3) := by decide +kernel
theorem dX10_hit_74 : decode cX10_hit 74 = .ok (.iload_n 2, 1) := by decide +kernel
theorem dX10_hit_75 : decode cX10_hit 75 = .ok (.iaload, 1) := by decide +kernel
theorem dX10_hit_76 : decode cX10_hit 76 = .ok (.ireturn, 1) := by decide +kernel
theorem dX10_wake_0 : decode cX10_wake 0 = .ok (.aload_n 0, 1) := by decide +kernel
theorem dX10_wake_1 : decode cX10_wake 1 = .ok (.iload_n 1, 1) := by decide +kernel
theorem dX10_wake_2 : decode cX10_wake 2 = .ok (.invokevirtual 291, 3) := by decide +kernel
theorem dX10_wake_5 : decode cX10_wake 5 = .ok (.ifCond .ne 6, 3) := by decide +kernel
theorem dX10_wake_8 : decode cX10_wake 8 = .ok (.bipush (-2), 2) := by decide +kernel
theorem dX10_wake_10 : decode cX10_wake 10 = .ok (.ireturn, 1) := by decide +kernel
theorem dX10_wake_11 : decode cX10_wake 11 = .ok (.aload_n 0, 1) := by decide +kernel
theorem dX10_wake_12 : decode cX10_wake 12 = .ok (.iload_n 1, 1) := by decide +kernel
theorem dX10_wake_13 : decode cX10_wake 13 = .ok (.invokevirtual 294, 3) := by decide +kernel
theorem dX10_wake_16 : decode cX10_wake 16 = .ok (.aload_n 0, 1) := by decide +kernel
theorem dX10_wake_17 : decode cX10_wake 17 = .ok (.getfield 272, 3) := by decide +kernel
theorem dX10_wake_20 : decode cX10_wake 20 = .ok (.ifCond .ne 7, 3) := by decide +kernel
theorem dX10_wake_23 : decode cX10_wake 23 = .ok (.iconst (-1), 1) := by decide +kernel
theorem dX10_wake_24 : decode cX10_wake 24 = .ok (.goto 43, 3) := by decide +kernel
theorem dX10_wake_27 : decode cX10_wake 27 = .ok (.aload_n 0, 1) := by decide +kernel
theorem dX10_wake_28 : decode cX10_wake 28 = .ok (.getfield 106, 3) := by decide +kernel
theorem dX10_wake_31 : decode cX10_wake 31 = .ok (.aload_n 0, 1) := by decide +kernel
theorem dX10_wake_32 : decode cX10_wake 32 = .ok (.getfield 121, 3) := by decide +kernel
theorem dX10_wake_35 : decode cX10_wake 35 = .ok (.iconst 0, 1) := by decide +kernel
theorem dX10_wake_36 : decode cX10_wake 36 = .ok (.iaload, 1) := by decide +kernel
theorem dX10_wake_37 : decode cX10_wake 37 = .ok (.iaload, 1) := by decide +kernel
theorem dX10_wake_38 : decode cX10_wake 38 = .ok (.aload_n 0, 1) := by decide +kernel
theorem dX10_wake_39 : decode cX10_wake 39 = .ok (.getfield 106, 3) := by decide +kernel
theorem dX10_wake_42 : decode cX10_wake 42 = .ok (.aload_n 0, 1) := by decide +kernel
theorem dX10_wake_43 : decode cX10_wake 43 = .ok (.getfield 118, 3) := by decide +kernel
theorem dX10_wake_46 : decode cX10_wake 46 = .ok (.iconst 0, 1) := by decide +kernel
theorem dX10_wake_47 : decode cX10_wake 47 = .ok (.iaload, 1) := by decide +kernel
theorem dX10_wake_48 : decode cX10_wake 48 = .ok (.iaload, 1) := by decide +kernel
theorem dX10_wake_49 : decode cX10_wake 49 = .ok (.if_icmp .le 12, 3) := by decide +kernel
theorem dX10_wake_52 : decode cX10_wake 52 = .ok (.aload_n 0, 1) := by decide +kernel
theorem dX10_wake_53 : decode cX10_wake 53 = .ok (.getfield 121, 3) := by decide +kernel
theorem dX10_wake_56 : decode cX10_wake 56 = .ok (.iconst 0, 1) := by decide +kernel
theorem dX10_wake_57 : decode cX10_wake 57 = .ok (.iaload, 1) := by decide +kernel
theorem dX10_wake_58 : decode cX10_wake 58 = .ok (.goto 9, 3) := by decide +kernel
theorem dX10_wake_61 : decode cX10_wake 61 = .ok (.aload_n 0, 1) := by decide +kernel
theorem dX10_wake_62 : decode cX10_wake 62 = .ok (.getfield 118, 3) := by decide +kernel
theorem dX10_wake_65 : decode cX10_wake 65 = .ok (.iconst 0, 1) := by decide +kernel
theorem dX10_wake_66 : decode cX10_wake 66 = .ok (.iaload, 1) := by decide +kernel
theorem dX10_wake_67 : decode cX10_wake 67 = .ok (.ireturn, 1) := by decide +kernel
theorem dX10_goOn_0 : decode cX10_goOn 0 = .ok (.aload_n 0, 1) := by decide +kernel
theorem dX10_goOn_1 : decode cX10_goOn 1 = .ok (.iload_n 1, 1) := by decide +kernel
theorem dX10_goOn_2 : decode cX10_goOn 2 = .ok (.invokevirtual 291, 3) := by decide +kernel
theorem dX10_goOn_5 : decode cX10_goOn 5 = .ok (.ifCond .eq 14, 3) := by decide +kernel
theorem dX10_goOn_8 : decode cX10_goOn 8 = .ok (.aload_n 0, 1) := by decide +kernel
theorem dX10_goOn_9 : decode cX10_goOn 9 = .ok (.getfield 139, 3) := by decide +kernel
theorem dX10_goOn_12 : decode cX10_goOn 12 = .ok (.iload_n 1, 1) := by decide +kernel
theorem dX10_goOn_13 : decode cX10_goOn 13 = .ok (.iadd, 1) := by decide +kernel
theorem dX10_goOn_14 : decode cX10_goOn 14 = .ok (.bipush 11, 2) := by decide +kernel
theorem dX10_goOn_16 : decode cX10_goOn 16 = .ok (.if_icmp .le 6, 3) := by decide +kernel
theorem dX10_goOn_19 : decode cX10_goOn 19 = .ok (.bipush (-2), 2) := by decide +kernel
theorem dX10_goOn_21 : decode cX10_goOn 21 = .ok (.ireturn, 1) := by decide +kernel
theorem dX10_goOn_22 : decode cX10_goOn 22 = .ok (.aload_n 0, 1) := by decide +kernel
theorem dX10_goOn_23 : decode cX10_goOn 23 = .ok (.iload_n 1, 1) := by decide +kernel
theorem dX10_goOn_24 : decode cX10_goOn 24 = .ok (.invokevirtual 294, 3) := by decide +kernel
theorem dX10_goOn_27 : decode cX10_goOn 27 = .ok (.iconst 0, 1) := by decide +kernel
theorem dX10_goOn_28 : decode cX10_goOn 28 = .ok (.istore_n 2, 1) := by decide +kernel
theorem dX10_goOn_29 : decode cX10_goOn 29 = .ok (.iload_n 2, 1) := by decide +kernel
theorem dX10_goOn_30 : decode cX10_goOn 30 = .ok (.aload_n 0, 1) := by decide +kernel
theorem dX10_goOn_31 : decode cX10_goOn 31 = .ok (.getfield 136, 3) := by decide +kernel
theorem dX10_goOn_34 : decode cX10_goOn 34 = .ok (.if_icmp .ge 21, 3) := by decide +kernel
theorem dX10_goOn_37 : decode cX10_goOn 37 = .ok (.aload_n 0, 1) := by decide +kernel
theorem dX10_goOn_38 : decode cX10_goOn 38 = .ok (.getfield 43, 3) := by decide +kernel
theorem dX10_goOn_41 : decode cX10_goOn 41 = .ok (.iload_n 2, 1) := by decide +kernel
theorem dX10_goOn_42 : decode cX10_goOn 42 = .ok (.aload_n 0, 1) := by decide +kernel
theorem dX10_goOn_43 : decode cX10_goOn 43 = .ok (.getfield 103, 3) := by decide +kernel
theorem dX10_goOn_46 : decode cX10_goOn 46 = .ok (.iload_n 2, 1) := by decide +kernel
theorem dX10_goOn_47 : decode cX10_goOn 47 = .ok (.iaload, 1) := by decide +kernel
theorem dX10_goOn_48 : decode cX10_goOn 48 = .ok (.iastore, 1) := by decide +kernel
theorem dX10_goOn_49 : decode cX10_goOn 49 = .ok (.iinc 2 1, 3) := by decide +kernel
theorem dX10_goOn_52 : decode cX10_goOn 52 = .ok (.goto (-23), 3) := by decide +kernel
theorem dX10_goOn_55 : decode cX10_goOn 55 = .ok (.aload_n 0, 1) := by decide +kernel
theorem dX10_goOn_56 : decode cX10_goOn 56 = .ok (.dup, 1) := by decide +kernel
theorem dX10_goOn_57 : decode cX10_goOn 57 = .ok (.getfield 139, 3) := by decide +kernel
theorem dX10_goOn_60 : decode cX10_goOn 60 = .ok (.iload_n 1, 1) := by decide +kernel
theorem dX10_goOn_61 : decode cX10_goOn 61 = .ok (.iadd, 1) := by decide +kernel
theorem dX10_goOn_62 : decode cX10_goOn 62 = .ok (.putfield 139, 3) := by decide +kernel
theorem dX10_goOn_65 : decode cX10_goOn 65 = .ok (.aload_n 0, 1) := by decide +kernel
theorem dX10_goOn_66 : decode cX10_goOn 66 = .ok (.getfield 139, 3) := by decide +kernel
theorem dX10_goOn_69 : decode cX10_goOn 69 = .ok (.ireturn, 1) := by decide +kernel
theorem dX10_veer_0 : decode cX10_veer 0 = .ok (.aload_n 0, 1) := by decide +kernel
theorem dX10_veer_1 : decode cX10_veer 1 = .ok (.iload_n 1, 1) := by decide +kernel
theorem dX10_veer_2 : decode cX10_veer 2 = .ok (.invokevirtual 236, 3) := by decide +kernel
theorem dX10_veer_5 : decode cX10_veer 5 = .ok (.ifCond .ne 6, 3) := by decide +kernel
theorem dX10_veer_8 : decode cX10_veer 8 = .ok (.bipush (-5), 2) := by decide +kernel
theorem dX10_veer_10 : decode cX10_veer 10 = .ok (.ireturn, 1) := by decide +kernel
theorem dX10_veer_11 : decode cX10_veer 11 = .ok (.aload_n 0, 1) := by decide +kernel
theorem dX10_veer_12 : decode cX10_veer 12 = .ok (.iload_n 2, 1) := by decide +kernel
theorem dX10_veer_13 : decode cX10_veer 13 = .ok (.invokevirtual 291, 3) := by decide +kernel
theorem dX10_veer_16 : decode cX10_veer 16 = .ok (.ifCond .ne 6, 3) := by decide +kernel
theorem dX10_veer_19 : decode cX10_veer 19 = .ok (.bipush (-7), 2) := by decide +kernel
theorem dX10_veer_21 : decode cX10_veer 21 = .ok (.ireturn, 1) := by decide +kernel
theorem dX10_veer_22 : decode cX10_veer 22 = .ok (.aload_n 0, 1) := by decide +kernel
theorem dX10_veer_23 : decode cX10_veer 23 = .ok (.getfield 43, 3) := by decide +kernel
theorem dX10_veer_26 : decode cX10_veer 26 = .ok (.iload_n 1, 1) := by decide +kernel
theorem dX10_veer_27 : decode cX10_veer 27 = .ok (.iaload, 1) := by decide +kernel
theorem dX10_veer_28 : decode cX10_veer 28 = .ok (.iconst (-1), 1) := by decide +kernel
theorem dX10_veer_29 : decode cX10_veer 29 = .ok (.if_icmp .ne 6, 3) := by decide +kernel
theorem dX10_veer_32 : decode cX10_veer 32 = .ok (.bipush (-3), 2) := by decide +kernel
theorem dX10_veer_34 : decode cX10_veer 34 = .ok (.ireturn, 1) := by decide +kernel
theorem dX10_veer_35 : decode cX10_veer 35 = .ok (.aload_n 0, 1) := by decide +kernel
theorem dX10_veer_36 : decode cX10_veer 36 = .ok (.getfield 46, 3) := by decide +kernel
theorem dX10_veer_39 : decode cX10_veer 39 = .ok (.iload_n 1, 1) := by decide +kernel
theorem dX10_veer_40 : decode cX10_veer 40 = .ok (.iaload, 1) := by decide +kernel
theorem dX10_veer_41 : decode cX10_veer 41 = .ok (.istore_n 3, 1) := by decide +kernel
theorem dX10_veer_42 : decode cX10_veer 42 = .ok (.iconst (-1), 1) := by decide +kernel
theorem dX10_veer_43 : decode cX10_veer 43 = .ok (.istore 4, 2) := by decide +kernel
theorem dX10_veer_45 : decode cX10_veer 45 = .ok (.iconst 1, 1) := by decide +kernel
theorem dX10_veer_46 : decode cX10_veer 46 = .ok (.istore 5, 2) := by decide +kernel
theorem dX10_veer_48 : decode cX10_veer 48 = .ok (.iload 5, 2) := by decide +kernel
theorem dX10_veer_50 : decode cX10_veer 50 = .ok (.bipush 40, 2) := by decide +kernel
theorem dX10_veer_52 : decode cX10_veer 52 = .ok (.if_icmp .gt 45, 3) := by decide +kernel
theorem dX10_veer_55 : decode cX10_veer 55 = .ok (.iload 4, 2) := by decide +kernel
theorem dX10_veer_57 : decode cX10_veer 57 = .ok (.iconst (-1), 1) := by decide +kernel
theorem dX10_veer_58 : decode cX10_veer 58 = .ok (.if_icmp .ne 39, 3) := by decide +kernel
theorem dX10_veer_61 : decode cX10_veer 61 = .ok (.aload_n 0, 1) := by decide +kernel
theorem dX10_veer_62 : decode cX10_veer 62 = .ok (.getfield 46, 3) := by decide +kernel
theorem dX10_veer_65 : decode cX10_veer 65 = .ok (.iload_n 1, 1) := by decide +kernel
theorem dX10_veer_66 : decode cX10_veer 66 = .ok (.iload 5, 2) := by decide +kernel
theorem dX10_veer_68 : decode cX10_veer 68 = .ok (.iastore, 1) := by decide +kernel
theorem dX10_veer_69 : decode cX10_veer 69 = .ok (.aload_n 0, 1) := by decide +kernel
theorem dX10_veer_70 : decode cX10_veer 70 = .ok (.iload_n 2, 1) := by decide +kernel
theorem dX10_veer_71 : decode cX10_veer 71 = .ok (.invokevirtual 294, 3) := by decide +kernel
theorem dX10_veer_74 : decode cX10_veer 74 = .ok (.aload_n 0, 1) := by decide +kernel
theorem dX10_veer_75 : decode cX10_veer 75 = .ok (.getfield 106, 3) := by decide +kernel
theorem dX10_veer_78 : decode cX10_veer 78 = .ok (.iload_n 1, 1) := by decide +kernel
theorem dX10_veer_79 : decode cX10_veer 79 = .ok (.iaload, 1) := by decide +kernel
theorem dX10_veer_80 : decode cX10_veer 80 = .ok (.ifCond .ne 8, 3) := by decide +kernel
theorem dX10_veer_83 : decode cX10_veer 83 = .ok (.iload 5, 2) := by decide +kernel
theorem dX10_veer_85 : decode cX10_veer 85 = .ok (.goto 4, 3) := by decide +kernel
theorem dX10_veer_88 : decode cX10_veer 88 = .ok (.iconst (-1), 1) := by decide +kernel
theorem dX10_veer_89 : decode cX10_veer 89 = .ok (.istore 4, 2) := by decide +kernel
theorem dX10_veer_91 : decode cX10_veer 91 = .ok (.iinc 5 1, 3) := by decide +kernel
theorem dX10_veer_94 : decode cX10_veer 94 = .ok (.goto (-46), 3) := by decide +kernel
theorem dX10_veer_97 : decode cX10_veer 97 = .ok (.aload_n 0, 1) := by decide +kernel
theorem dX10_veer_98 : decode cX10_veer 98 = .ok (.getfield 46, 3) := by decide +kernel
theorem dX10_veer_101 : decode cX10_veer 101 = .ok (.iload_n 1, 1) := by decide +kernel
theorem dX10_veer_102 : decode cX10_veer 102 = .ok (.iload_n 3, 1) := by decide +kernel
theorem dX10_veer_103 : decode cX10_veer 103 = .ok (.iastore, 1) := by decide +kernel
theorem dX10_veer_104 : decode cX10_veer 104 = .ok (.iload 4, 2) := by decide +kernel
theorem dX10_veer_106 : decode cX10_veer 106 = .ok (.ireturn, 1) := by decide +kernel
theorem dX10_meets_0 : decode cX10_meets 0 = .ok (.iconst 0, 1) := by decide +kernel
theorem dX10_meets_1 : decode cX10_meets 1 = .ok (.istore_n 2, 1) := by decide +kernel
theorem dX10_meets_2 : decode cX10_meets 2 = .ok (.iload_n 2, 1) := by decide +kernel
theorem dX10_meets_3 : decode cX10_meets 3 = .ok (.aload_n 0, 1) := by decide +kernel
theorem dX10_meets_4 : decode cX10_meets 4 = .ok (.getfield 272, 3) := by decide +kernel
theorem dX10_meets_7 : decode cX10_meets 7 = .ok (.if_icmp .ge 31, 3) := by decide +kernel
theorem dX10_meets_10 : decode cX10_meets 10 = .ok (.aload_n 0, 1) := by decide +kernel
theorem dX10_meets_11 : decode cX10_meets 11 = .ok (.getfield 118, 3) := by decide +kernel
theorem dX10_meets_14 : decode cX10_meets 14 = .ok (.iload_n 2, 1) := by decide +kernel
theorem dX10_meets_15 : decode cX10_meets 15 = .ok (.iaload, 1) := by decide +kernel
theorem dX10_meets_16 : decode cX10_meets 16 = .ok (.iload_n 1, 1) := by decide +kernel
theorem dX10_meets_17 : decode cX10_meets 17 = .ok (.if_icmp .eq 13, 3) := by decide +kernel
theorem dX10_meets_20 : decode cX10_meets 20 = .ok (.aload_n 0, 1) := by decide +kernel
theorem dX10_meets_21 : decode cX10_meets 21 = .ok (.getfield 121, 3) := by decide +kernel
theorem dX10_meets_24 : decode cX10_meets 24 = .ok (.iload_n 2, 1) := by decide +kernel
theorem dX10_meets_25 : decode cX10_meets 25 = .ok (.iaload, 1) := by decide +kernel
theorem dX10_meets_26 : decode cX10_meets 26 = .ok (.iload_n 1, 1) := by decide +kernel
theorem dX10_meets_27 : decode cX10_meets 27 = .ok (.if_icmp .ne 5, 3) := by decide +kernel
theorem dX10_meets_30 : decode cX10_meets 30 = .ok (.iconst 1, 1) := by decide +kernel
theorem dX10_meets_31 : decode cX10_meets 31 = .ok (.ireturn, 1) := by decide +kernel
theorem dX10_meets_32 : decode cX10_meets 32 = .ok (.iinc 2 1, 3) := by decide +kernel
theorem dX10_meets_35 : decode cX10_meets 35 = .ok (.goto (-33), 3) := by decide +kernel
theorem dX10_meets_38 : decode cX10_meets 38 = .ok (.iconst 0, 1) := by decide +kernel
theorem dX10_meets_39 : decode cX10_meets 39 = .ok (.ireturn, 1) := by decide +kernel
theorem dX10_drop_0 : decode cX10_drop 0 = .ok (.aload_n 0, 1) := by decide +kernel
theorem dX10_drop_1 : decode cX10_drop 1 = .ok (.iload_n 1, 1) := by decide +kernel
theorem dX10_drop_2 : decode cX10_drop 2 = .ok (.invokevirtual 236, 3) := by decide +kernel
theorem dX10_drop_5 : decode cX10_drop 5 = .ok (.ifCond .ne 6, 3) := by decide +kernel
theorem dX10_drop_8 : decode cX10_drop 8 = .ok (.bipush (-5), 2) := by decide +kernel
theorem dX10_drop_10 : decode cX10_drop 10 = .ok (.ireturn, 1) := by decide +kernel
theorem dX10_drop_11 : decode cX10_drop 11 = .ok (.aload_n 0, 1) := by decide +kernel
theorem dX10_drop_12 : decode cX10_drop 12 = .ok (.iload_n 2, 1) := by decide +kernel
theorem dX10_drop_13 : decode cX10_drop 13 = .ok (.invokevirtual 291, 3) := by decide +kernel
theorem dX10_drop_16 : decode cX10_drop 16 = .ok (.ifCond .eq 12, 3) := by decide +kernel
theorem dX10_drop_19 : decode cX10_drop 19 = .ok (.iload_n 3, 1) := by decide +kernel
theorem dX10_drop_20 : decode cX10_drop 20 = .ok (.iconst 0, 1) := by decide +kernel
theorem dX10_drop_21 : decode cX10_drop 21 = .ok (.iconst 1, 1) := by decide +kernel
theorem dX10_drop_22 : decode cX10_drop 22 = .ok (.invokestatic 132, 3) := by decide +kernel
theorem dX10_drop_25 : decode cX10_drop 25 = .ok (.ifCond .ne 6, 3) := by decide +kernel
theorem dX10_drop_28 : decode cX10_drop 28 = .ok (.bipush (-7), 2) := by decide +kernel
theorem dX10_drop_30 : decode cX10_drop 30 = .ok (.ireturn, 1) := by decide +kernel
theorem dX10_drop_31 : decode cX10_drop 31 = .ok (.aload_n 0, 1) := by decide +kernel
theorem dX10_drop_32 : decode cX10_drop 32 = .ok (.getfield 43, 3) := by decide +kernel
theorem dX10_drop_35 : decode cX10_drop 35 = .ok (.iload_n 1, 1) := by decide +kernel
theorem dX10_drop_36 : decode cX10_drop 36 = .ok (.iaload, 1) := by decide +kernel
theorem dX10_drop_37 : decode cX10_drop 37 = .ok (.istore 4, 2) := by decide +kernel
theorem dX10_drop_39 : decode cX10_drop 39 = .ok (.iconst (-1), 1) := by decide +kernel
theorem dX10_drop_40 : decode cX10_drop 40 = .ok (.istore 5, 2) := by decide +kernel
theorem dX10_drop_42 : decode cX10_drop 42 = .ok (.iconst 0, 1) := by decide +kernel
theorem dX10_drop_43 : decode cX10_drop 43 = .ok (.istore 6, 2) := by decide +kernel
theorem dX10_drop_45 : decode cX10_drop 45 = .ok (.iconst 0, 1) := by decide +kernel
theorem dX10_drop_46 : decode cX10_drop 46 = .ok (.istore 7, 2) := by decide +kernel
theorem dX10_drop_48 : decode cX10_drop 48 = .ok (.iload 7, 2) := by decide +kernel
theorem dX10_drop_50 : decode cX10_drop 50 = .ok (.bipush 100, 2) := by decide +kernel
theorem dX10_drop_52 : decode cX10_drop 52 = .ok (.if_icmp .ge 68, 3) := by decide +kernel
theorem dX10_drop_55 : decode cX10_drop 55 = .ok (.aload_n 0, 1) := by decide +kernel
theorem dX10_drop_56 : decode cX10_drop 56 = .ok (.getfield 43, 3) := by decide +kernel
theorem dX10_drop_59 : decode cX10_drop 59 = .ok (.iload_n 1, 1) := by decide +kernel
theorem dX10_drop_60 : decode cX10_drop 60 = .ok (.iload 7, 2) := by decide +kernel
theorem dX10_drop_62 : decode cX10_drop 62 = .ok (.iastore, 1) := by decide +kernel
theorem dX10_drop_63 : decode cX10_drop 63 = .ok (.aload_n 0, 1) := by decide +kernel
theorem dX10_drop_64 : decode cX10_drop 64 = .ok (.iload_n 2, 1) := by decide +kernel
theorem dX10_drop_65 : decode cX10_drop 65 = .ok (.invokevirtual 294, 3) := by decide +kernel
theorem dX10_drop_68 : decode cX10_drop 68 = .ok (.aload_n 0, 1) := by decide +kernel
theorem dX10_drop_69 : decode cX10_drop 69 = .ok (.getfield 13, 3) := by decide +kernel
theorem dX10_drop_72 : decode cX10_drop 72 = .ok (.iload 7, 2) := by decide +kernel
theorem dX10_drop_74 : decode cX10_drop 74 = .ok (.iaload, 1) := by decide +kernel
theorem dX10_drop_75 : decode cX10_drop 75 = .ok (.iconst 3, 1) := by decide +kernel
theorem dX10_drop_76 : decode cX10_drop 76 = .ok (.if_icmp .eq 38, 3) := by decide +kernel
theorem dX10_drop_79 : decode cX10_drop 79 = .ok (.aload_n 0, 1) := by decide +kernel
theorem dX10_drop_80 : decode cX10_drop 80 = .ok (.getfield 106, 3) := by decide +kernel
theorem dX10_drop_83 : decode cX10_drop 83 = .ok (.iload_n 1, 1) := by decide +kernel
theorem dX10_drop_84 : decode cX10_drop 84 = .ok (.iaload, 1) := by decide +kernel
theorem dX10_drop_85 : decode cX10_drop 85 = .ok (.ifCond .ne 29, 3) := by decide +kernel
theorem dX10_drop_88 : decode cX10_drop 88 = .ok (.aload_n 0, 1) := by decide +kernel
theorem dX10_drop_89 : decode cX10_drop 89 = .ok (.iload_n 1, 1) := by decide +kernel
theorem dX10_drop_90 : decode cX10_drop 90 = .ok (.invokevirtual 297, 3) := by decide +kernel
theorem dX10_drop_93 : decode cX10_drop 93 = .ok (.ifCond .ne 21, 3) := by decide +kernel
theorem dX10_drop_96 : decode cX10_drop 96 = .ok (.iload 5, 2) := by decide +kernel
theorem dX10_drop_98 : decode cX10_drop 98 = .ok (.iconst (-1), 1) := by decide +kernel
theorem dX10_drop_99 : decode cX10_drop 99 = .ok (.if_icmp .ne 8, 3) := by decide +kernel
theorem dX10_drop_102 : decode cX10_drop 102 = .ok (.iload 7, 2) := by decide +kernel
theorem dX10_drop_104 : decode cX10_drop 104 = .ok (.goto 5, 3) := by decide +kernel
theorem dX10_drop_107 : decode cX10_drop 107 = .ok (.iload 5, 2) := by decide +kernel
theorem dX10_drop_109 : decode cX10_drop 109 = .ok (.istore 5, 2) := by decide +kernel
theorem dX10_drop_111 : decode cX10_drop 111 = .ok (.iinc 6 1, 3) := by decide +kernel
theorem dX10_drop_114 : decode cX10_drop 114 = .ok (.iinc 7 1, 3) := by decide +kernel
theorem dX10_drop_117 : decode cX10_drop 117 = .ok (.goto (-69), 3) := by decide +kernel
theorem dX10_drop_120 : decode cX10_drop 120 = .ok (.aload_n 0, 1) := by decide +kernel
theorem dX10_drop_121 : decode cX10_drop 121 = .ok (.getfield 43, 3) := by decide +kernel
theorem dX10_drop_124 : decode cX10_drop 124 = .ok (.iload_n 1, 1) := by decide +kernel
theorem dX10_drop_125 : decode cX10_drop 125 = .ok (.iload 4, 2) := by decide +kernel
theorem dX10_drop_127 : decode cX10_drop 127 = .ok (.iastore, 1) := by decide +kernel
theorem dX10_drop_128 : decode cX10_drop 128 = .ok (.iload_n 3, 1) := by decide +kernel
theorem dX10_drop_129 : decode cX10_drop 129 = .ok (.ifCond .ne 8, 3) := by decide +kernel
theorem dX10_drop_132 : decode cX10_drop 132 = .ok (.iload 5, 2) := by decide +kernel
theorem dX10_drop_134 : decode cX10_drop 134 = .ok (.goto 5, 3) := by decide +kernel
theorem dX10_drop_137 : decode cX10_drop 137 = .ok (.iload 6, 2) := by decide +kernel
theorem dX10_drop_139 : decode cX10_drop 139 = .ok (.ireturn, 1) := by decide +kernel
theorem dX10_ringsOf_0 : decode cX10_ringsOf 0 = .ok (.iconst 0, 1) := by decide +kernel
theorem dX10_ringsOf_1 : decode cX10_ringsOf 1 = .ok (.istore_n 3, 1) := by decide +kernel
theorem dX10_ringsOf_2 : decode cX10_ringsOf 2 = .ok (.iconst 0, 1) := by decide +kernel
theorem dX10_ringsOf_3 : decode cX10_ringsOf 3 = .ok (.istore 4, 2) := by decide +kernel
theorem dX10_ringsOf_5 : decode cX10_ringsOf 5 = .ok (.iload 4, 2) := by decide +kernel
theorem dX10_ringsOf_7 : decode cX10_ringsOf 7 = .ok (.bipush 8, 2) := by decide +kernel
theorem dX10_ringsOf_9 : decode cX10_ringsOf 9 = .ok (.if_icmp .ge 95, 3) := by decide +kernel
theorem dX10_ringsOf_12 : decode cX10_ringsOf 12 = .ok (.aload_n 0, 1) := by decide +kernel
theorem dX10_ringsOf_13 : decode cX10_ringsOf 13 = .ok (.aload_n 0, 1) := by decide +kernel
theorem dX10_ringsOf_14 : decode cX10_ringsOf 14 = .ok (.getfield 43, 3) := by decide +kernel
theorem dX10_ringsOf_17 : decode cX10_ringsOf 17 = .ok (.iload_n 1, 1) := by decide +kernel
theorem dX10_ringsOf_18 : decode cX10_ringsOf 18 = .ok (.iaload, 1) := by decide +kernel
theorem dX10_ringsOf_19 : decode cX10_ringsOf 19 = .ok (.iload 4, 2) := by decide +kernel
theorem dX10_ringsOf_21 : decode cX10_ringsOf 21 = .ok (.aload_n 0, 1) := by decide +kernel
theorem dX10_ringsOf_22 : decode cX10_ringsOf 22 = .ok (.aload_n 0, 1) := by decide +kernel
theorem dX10_ringsOf_23 : decode cX10_ringsOf 23 = .ok (.getfield 43, 3) := by decide +kernel
theorem dX10_ringsOf_26 : decode cX10_ringsOf 26 = .ok (.iload_n 1, 1) := by decide +kernel
theorem dX10_ringsOf_27 : decode cX10_ringsOf 27 = .ok (.iaload, 1) := by decide +kernel
theorem dX10_ringsOf_28 : decode cX10_ringsOf 28 = .ok (.aload_n 0, 1) := by decide +kernel
theorem dX10_ringsOf_29 : decode cX10_ringsOf 29 = .ok (.getfield 139, 3) := by decide +kernel
theorem dX10_ringsOf_32 : decode cX10_ringsOf 32 = .ok (.aload_n 0, 1) := by decide +kernel
theorem dX10_ringsOf_33 : decode cX10_ringsOf 33 = .ok (.getfield 46, 3) := by decide +kernel
theorem dX10_ringsOf_36 : decode cX10_ringsOf 36 = .ok (.iload_n 1, 1) := by decide +kernel
theorem dX10_ringsOf_37 : decode cX10_ringsOf 37 = .ok (.iaload, 1) := by decide +kernel
theorem dX10_ringsOf_38 : decode cX10_ringsOf 38 = .ok (.invokevirtual 266, 3) := by decide +kernel
theorem dX10_ringsOf_41 : decode cX10_ringsOf 41 = .ok (.invokevirtual 282, 3) := by decide +kernel
theorem dX10_ringsOf_44 : decode cX10_ringsOf 44 = .ok (.istore 5, 2) := by decide +kernel
theorem dX10_ringsOf_46 : decode cX10_ringsOf 46 = .ok (.aload_n 0, 1) := by decide +kernel
theorem dX10_ringsOf_47 : decode cX10_ringsOf 47 = .ok (.aload_n 0, 1) := by decide +kernel
theorem dX10_ringsOf_48 : decode cX10_ringsOf 48 = .ok (.getfield 43, 3) := by decide +kernel
theorem dX10_ringsOf_51 : decode cX10_ringsOf 51 = .ok (.iload_n 2, 1) := by decide +kernel
theorem dX10_ringsOf_52 : decode cX10_ringsOf 52 = .ok (.iaload, 1) := by decide +kernel
theorem dX10_ringsOf_53 : decode cX10_ringsOf 53 = .ok (.iload 4, 2) := by decide +kernel
theorem dX10_ringsOf_55 : decode cX10_ringsOf 55 = .ok (.aload_n 0, 1) := by decide +kernel
theorem dX10_ringsOf_56 : decode cX10_ringsOf 56 = .ok (.aload_n 0, 1) := by decide +kernel
theorem dX10_ringsOf_57 : decode cX10_ringsOf 57 = .ok (.getfield 43, 3) := by decide +kernel
theorem dX10_ringsOf_60 : decode cX10_ringsOf 60 = .ok (.iload_n 2, 1) := by decide +kernel
theorem dX10_ringsOf_61 : decode cX10_ringsOf 61 = .ok (.iaload, 1) := by decide +kernel
theorem dX10_ringsOf_62 : decode cX10_ringsOf 62 = .ok (.aload_n 0, 1) := by decide +kernel
theorem dX10_ringsOf_63 : decode cX10_ringsOf 63 = .ok (.getfield 139, 3) := by decide +kernel
theorem dX10_ringsOf_66 : decode cX10_ringsOf 66 = .ok (.aload_n 0, 1) := by decide +kernel
theorem dX10_ringsOf_67 : decode cX10_ringsOf 67 = .ok (.getfield 46, 3) := by decide +kernel
theorem dX10_ringsOf_70 : decode cX10_ringsOf 70 = .ok (.iload_n 2, 1) := by decide +kernel
theorem dX10_ringsOf_71 : decode cX10_ringsOf 71 = .ok (.iaload, 1) := by decide +kernel
theorem dX10_ringsOf_72 : decode cX10_ringsOf 72 = .ok (.invokevirtual 266, 3) := by decide +kernel
theorem dX10_ringsOf_75 : decode cX10_ringsOf 75 = .ok (.invokevirtual 282, 3) := by decide +kernel
theorem dX10_ringsOf_78 : decode cX10_ringsOf 78 = .ok (.istore 6, 2) := by decide +kernel
theorem dX10_ringsOf_80 : decode cX10_ringsOf 80 = .ok (.iload_n 3, 1) := by decide +kernel
theorem dX10_ringsOf_81 : decode cX10_ringsOf 81 = .ok (.iload 5, 2) := by decide +kernel
theorem dX10_ringsOf_83 : decode cX10_ringsOf 83 = .ok (.iload 6, 2) := by decide +kernel
theorem dX10_ringsOf_85 : decode cX10_ringsOf 85 = .ok (.if_icmp .ne 10, 3) := by decide +kernel
theorem dX10_ringsOf_88 : decode cX10_ringsOf 88 = .ok (.iconst 1, 1) := by decide +kernel
theorem dX10_ringsOf_89 : decode cX10_ringsOf 89 = .ok (.iload 4, 2) := by decide +kernel
theorem dX10_ringsOf_91 : decode cX10_ringsOf 91 = .ok (.ishl, 1) := by decide +kernel
theorem dX10_ringsOf_92 : decode cX10_ringsOf 92 = .ok (.goto 4, 3) := by decide +kernel
theorem dX10_ringsOf_95 : decode cX10_ringsOf 95 = .ok (.iconst 0, 1) := by decide +kernel
theorem dX10_ringsOf_96 : decode cX10_ringsOf 96 = .ok (.ior, 1) := by decide +kernel
theorem dX10_ringsOf_97 : decode cX10_ringsOf 97 = .ok (.istore_n 3, 1) := by decide +kernel
theorem dX10_ringsOf_98 : decode cX10_ringsOf 98 = .ok (.iinc 4 1, 3) := by decide +kernel
theorem dX10_ringsOf_101 : decode cX10_ringsOf 101 = .ok (.goto (-96), 3) := by decide +kernel
theorem dX10_ringsOf_104 : decode cX10_ringsOf 104 = .ok (.iload_n 3, 1) := by decide +kernel
theorem dX10_ringsOf_105 : decode cX10_ringsOf 105 = .ok (.ireturn, 1) := by decide +kernel
theorem dX10_rings_0 : decode cX10_rings 0 = .ok (.aload_n 0, 1) := by decide +kernel
theorem dX10_rings_1 : decode cX10_rings 1 = .ok (.iload_n 1, 1) := by decide +kernel
theorem dX10_rings_2 : decode cX10_rings 2 = .ok (.invokevirtual 236, 3) := by decide +kernel
theorem dX10_rings_5 : decode cX10_rings 5 = .ok (.ifCond .eq 16, 3) := by decide +kernel
theorem dX10_rings_8 : decode cX10_rings 8 = .ok (.aload_n 0, 1) := by decide +kernel
theorem dX10_rings_9 : decode cX10_rings 9 = .ok (.iload_n 2, 1) := by decide +kernel
theorem dX10_rings_10 : decode cX10_rings 10 = .ok (.invokevirtual 236, 3) := by decide +kernel
theorem dX10_rings_13 : decode cX10_rings 13 = .ok (.ifCond .eq 8, 3) := by decide +kernel
theorem dX10_rings_16 : decode cX10_rings 16 = .ok (.iload_n 1, 1) := by decide +kernel
theorem dX10_rings_17 : decode cX10_rings 17 = .ok (.iload_n 2, 1) := by decide +kernel
theorem dX10_rings_18 : decode cX10_rings 18 = .ok (.if_icmp .ne 6, 3) := by decide +kernel
theorem dX10_rings_21 : decode cX10_rings 21 = .ok (.bipush (-5), 2) := by decide +kernel
theorem dX10_rings_23 : decode cX10_rings 23 = .ok (.ireturn, 1) := by decide +kernel
theorem dX10_rings_24 : decode cX10_rings 24 = .ok (.aload_n 0, 1) := by decide +kernel
theorem dX10_rings_25 : decode cX10_rings 25 = .ok (.getfield 43, 3) := by decide +kernel
theorem dX10_rings_28 : decode cX10_rings 28 = .ok (.iload_n 1, 1) := by decide +kernel
theorem dX10_rings_29 : decode cX10_rings 29 = .ok (.iaload, 1) := by decide +kernel
theorem dX10_rings_30 : decode cX10_rings 30 = .ok (.iconst (-1), 1) := by decide +kernel
theorem dX10_rings_31 : decode cX10_rings 31 = .ok (.if_icmp .eq 13, 3) := by decide +kernel
theorem dX10_rings_34 : decode cX10_rings 34 = .ok (.aload_n 0, 1) := by decide +kernel
theorem dX10_rings_35 : decode cX10_rings 35 = .ok (.getfield 43, 3) := by decide +kernel
theorem dX10_rings_38 : decode cX10_rings 38 = .ok (.iload_n 2, 1) := by decide +kernel
theorem dX10_rings_39 : decode cX10_rings 39 = .ok (.iaload, 1) := by decide +kernel
theorem dX10_rings_40 : decode cX10_rings 40 = .ok (.iconst (-1), 1) := by decide +kernel
theorem dX10_rings_41 : decode cX10_rings 41 = .ok (.if_icmp .ne 8, 3) := by decide +kernel
theorem dX10_rings_44 : decode cX10_rings 44 = .ok (.bipush (-3), 2) := by decide +kernel
theorem dX10_rings_46 : decode cX10_rings 46 = .ok (.goto 9, 3) := by decide +kernel
theorem dX10_rings_49 : decode cX10_rings 49 = .ok (.aload_n 0, 1) := by decide +kernel
theorem dX10_rings_50 : decode cX10_rings 50 = .ok (.iload_n 1, 1) := by decide +kernel
theorem dX10_rings_51 : decode cX10_rings 51 = .ok (.iload_n 2, 1) := by decide +kernel
theorem dX10_rings_52 : decode cX10_rings 52 = .ok (.invokevirtual 300, 3) := by decide +kernel
theorem dX10_rings_55 : decode cX10_rings 55 = .ok (.ireturn, 1) := by decide +kernel
theorem dX10_late_0 : decode cX10_late 0 = .ok (.iconst 1, 1) := by decide +kernel
theorem dX10_late_1 : decode cX10_late 1 = .ok (.istore_n 1, 1) := by decide +kernel
theorem dX10_late_2 : decode cX10_late 2 = .ok (.iload_n 1, 1) := by decide +kernel
theorem dX10_late_3 : decode cX10_late 3 = .ok (.aload_n 0, 1) := by decide +kernel
theorem dX10_late_4 : decode cX10_late 4 = .ok (.getfield 136, 3) := by decide +kernel
theorem dX10_late_7 : decode cX10_late 7 = .ok (.if_icmp .ge 53, 3) := by decide +kernel
theorem dX10_late_10 : decode cX10_late 10 = .ok (.iconst 0, 1) := by decide +kernel
theorem dX10_late_11 : decode cX10_late 11 = .ok (.istore_n 2, 1) := by decide +kernel
theorem dX10_late_12 : decode cX10_late 12 = .ok (.iload_n 2, 1) := by decide +kernel
theorem dX10_late_13 : decode cX10_late 13 = .ok (.iload_n 1, 1) := by decide +kernel
theorem dX10_late_14 : decode cX10_late 14 = .ok (.if_icmp .ge 40, 3) := by decide +kernel
theorem dX10_late_17 : decode cX10_late 17 = .ok (.aload_n 0, 1) := by decide +kernel
theorem dX10_late_18 : decode cX10_late 18 = .ok (.getfield 43, 3) := by decide +kernel
theorem dX10_late_21 : decode cX10_late 21 = .ok (.iload_n 1, 1) := by decide +kernel
theorem dX10_late_22 : decode cX10_late 22 = .ok (.iaload, 1) := by decide +kernel
theorem dX10_late_23 : decode cX10_late 23 = .ok (.iconst (-1), 1) := by decide +kernel
theorem dX10_late_24 : decode cX10_late 24 = .ok (.if_icmp .eq 24, 3) := by decide +kernel
theorem dX10_late_27 : decode cX10_late 27 = .ok (.aload_n 0, 1) := by decide +kernel
theorem dX10_late_28 : decode cX10_late 28 = .ok (.getfield 43, 3) := by decide +kernel
theorem dX10_late_31 : decode cX10_late 31 = .ok (.iload_n 2, 1) := by decide +kernel
theorem dX10_late_32 : decode cX10_late 32 = .ok (.iaload, 1) := by decide +kernel
theorem dX10_late_33 : decode cX10_late 33 = .ok (.iconst (-1), 1) := by decide +kernel
theorem dX10_late_34 : decode cX10_late 34 = .ok (.if_icmp .eq 14, 3) := by decide +kernel
theorem dX10_late_37 : decode cX10_late 37 = .ok (.aload_n 0, 1) := by decide +kernel
theorem dX10_late_38 : decode cX10_late 38 = .ok (.iload_n 1, 1) := by decide +kernel
theorem dX10_late_39 : decode cX10_late 39 = .ok (.iload_n 2, 1) := by decide +kernel
theorem dX10_late_40 : decode cX10_late 40 = .ok (.invokevirtual 300, 3) := by decide +kernel
theorem dX10_late_43 : decode cX10_late 43 = .ok (.ifCond .eq 5, 3) := by decide +kernel
theorem dX10_late_46 : decode cX10_late 46 = .ok (.iload_n 1, 1) := by decide +kernel
theorem dX10_late_47 : decode cX10_late 47 = .ok (.ireturn, 1) := by decide +kernel
theorem dX10_late_48 : decode cX10_late 48 = .ok (.iinc 2 1, 3) := by decide +kernel
theorem dX10_late_51 : decode cX10_late 51 = .ok (.goto (-39), 3) := by decide +kernel
theorem dX10_late_54 : decode cX10_late 54 = .ok (.iinc 1 1, 3) := by decide +kernel
theorem dX10_late_57 : decode cX10_late 57 = .ok (.goto (-55), 3) := by decide +kernel
theorem dX10_late_60 : decode cX10_late 60 = .ok (.iconst (-1), 1) := by decide +kernel
theorem dX10_late_61 : decode cX10_late 61 = .ok (.ireturn, 1) := by decide +kernel
theorem dX10_apart_0 : decode cX10_apart 0 = .ok (.iload_n 0, 1) := by decide +kernel
theorem dX10_apart_1 : decode cX10_apart 1 = .ok (.bipush 10, 2) := by decide +kernel
theorem dX10_apart_3 : decode cX10_apart 3 = .ok (.irem, 1) := by decide +kernel
theorem dX10_apart_4 : decode cX10_apart 4 = .ok (.iload_n 1, 1) := by decide +kernel
theorem dX10_apart_5 : decode cX10_apart 5 = .ok (.bipush 10, 2) := by decide +kernel
theorem dX10_apart_7 : decode cX10_apart 7 = .ok (.irem, 1) := by decide +kernel
theorem dX10_apart_8 : decode cX10_apart 8 = .ok (.isub, 1) := by decide +kernel
theorem dX10_apart_9 : decode cX10_apart 9 = .ok (.invokestatic 256, 3) := by decide +kernel
theorem dX10_apart_12 : decode cX10_apart 12 = .ok (.istore_n 2, 1) := by decide +kernel
theorem dX10_apart_13 : decode cX10_apart 13 = .ok (.iload_n 0, 1) := by decide +kernel
theorem dX10_apart_14 : decode cX10_apart 14 = .ok (.bipush 10, 2) := by decide +kernel
theorem dX10_apart_16 : decode cX10_apart 16 = .ok (.idiv, 1) := by decide +kernel
theorem dX10_apart_17 : decode cX10_apart 17 = .ok (.iload_n 1, 1) := by decide +kernel
theorem dX10_apart_18 : decode cX10_apart 18 = .ok (.bipush 10, 2) := by decide +kernel
theorem dX10_apart_20 : decode cX10_apart 20 = .ok (.idiv, 1) := by decide +kernel
theorem dX10_apart_21 : decode cX10_apart 21 = .ok (.isub, 1) := by decide +kernel
theorem dX10_apart_22 : decode cX10_apart 22 = .ok (.invokestatic 256, 3) := by decide +kernel
theorem dX10_apart_25 : decode cX10_apart 25 = .ok (.istore_n 3, 1) := by decide +kernel
theorem dX10_apart_26 : decode cX10_apart 26 = .ok (.iload_n 2, 1) := by decide +kernel
theorem dX10_apart_27 : decode cX10_apart 27 = .ok (.iload_n 3, 1) := by decide +kernel
theorem dX10_apart_28 : decode cX10_apart 28 = .ok (.if_icmp .le 7, 3) := by decide +kernel
theorem dX10_apart_31 : decode cX10_apart 31 = .ok (.iload_n 2, 1) := by decide +kernel
theorem dX10_apart_32 : decode cX10_apart 32 = .ok (.goto 4, 3) := by decide +kernel
theorem dX10_apart_35 : decode cX10_apart 35 = .ok (.iload_n 3, 1) := by decide +kernel
theorem dX10_apart_36 : decode cX10_apart 36 = .ok (.ireturn, 1) := by decide +kernel
theorem dX10_alarms_0 : decode cX10_alarms 0 = .ok (.aload_n 0, 1) := by decide +kernel
theorem dX10_alarms_1 : decode cX10_alarms 1 = .ok (.getfield 139, 3) := by decide +kernel
theorem dX10_alarms_4 : decode cX10_alarms 4 = .ok (.istore 4, 2) := by decide +kernel
theorem dX10_alarms_6 : decode cX10_alarms 6 = .ok (.iload 4, 2) := by decide +kernel
theorem dX10_alarms_8 : decode cX10_alarms 8 = .ok (.aload_n 0, 1) := by decide +kernel
theorem dX10_alarms_9 : decode cX10_alarms 9 = .ok (.getfield 139, 3) := by decide +kernel
theorem dX10_alarms_12 : decode cX10_alarms 12 = .ok (.iload_n 2, 1) := by decide +kernel
theorem dX10_alarms_13 : decode cX10_alarms 13 = .ok (.iadd, 1) := by decide +kernel
theorem dX10_alarms_14 : decode cX10_alarms 14 = .ok (.if_icmp .ge 47, 3) := by decide +kernel
theorem dX10_alarms_17 : decode cX10_alarms 17 = .ok (.aload_n 0, 1) := by decide +kernel
theorem dX10_alarms_18 : decode cX10_alarms 18 = .ok (.getfield 112, 3) := by decide +kernel
theorem dX10_alarms_21 : decode cX10_alarms 21 = .ok (.bipush 6, 2) := by decide +kernel
theorem dX10_alarms_23 : decode cX10_alarms 23 = .ok (.iload 4, 2) := by decide +kernel
theorem dX10_alarms_25 : decode cX10_alarms 25 = .ok (.imul, 1) := by decide +kernel
theorem dX10_alarms_26 : decode cX10_alarms 26 = .ok (.iload_n 1, 1) := by decide +kernel
theorem dX10_alarms_27 : decode cX10_alarms 27 = .ok (.iadd, 1) := by decide +kernel
theorem dX10_alarms_28 : decode cX10_alarms 28 = .ok (.iaload, 1) := by decide +kernel
theorem dX10_alarms_29 : decode cX10_alarms 29 = .ok (.istore 5, 2) := by decide +kernel
theorem dX10_alarms_31 : decode cX10_alarms 31 = .ok (.iload 5, 2) := by decide +kernel
theorem dX10_alarms_33 : decode cX10_alarms 33 = .ok (.iconst (-1), 1) := by decide +kernel
theorem dX10_alarms_34 : decode cX10_alarms 34 = .ok (.if_icmp .eq 18, 3) := by decide +kernel
theorem dX10_alarms_37 : decode cX10_alarms 37 = .ok (.iload 5, 2) := by decide +kernel
theorem dX10_alarms_39 : decode cX10_alarms 39 = .ok (.aload_n 0, 1) := by decide +kernel
theorem dX10_alarms_40 : decode cX10_alarms 40 = .ok (.getfield 43, 3) := by decide +kernel
theorem dX10_alarms_43 : decode cX10_alarms 43 = .ok (.iload_n 1, 1) := by decide +kernel
theorem dX10_alarms_44 : decode cX10_alarms 44 = .ok (.iaload, 1) := by decide +kernel
theorem dX10_alarms_45 : decode cX10_alarms 45 = .ok (.invokestatic 303, 3) := by decide +kernel
theorem dX10_alarms_48 : decode cX10_alarms 48 = .ok (.iload_n 3, 1) := by decide +kernel
theorem dX10_alarms_49 : decode cX10_alarms 49 = .ok (.if_icmp .le 6, 3) := by decide +kernel
theorem dX10_alarms_52 : decode cX10_alarms 52 = .ok (.iload 4, 2) := by decide +kernel
theorem dX10_alarms_54 : decode cX10_alarms 54 = .ok (.ireturn, 1) := by decide +kernel
theorem dX10_alarms_55 : decode cX10_alarms 55 = .ok (.iinc 4 1, 3) := by decide +kernel
theorem dX10_alarms_58 : decode cX10_alarms 58 = .ok (.goto (-52), 3) := by decide +kernel
theorem dX10_alarms_61 : decode cX10_alarms 61 = .ok (.iconst (-1), 1) := by decide +kernel
theorem dX10_alarms_62 : decode cX10_alarms 62 = .ok (.ireturn, 1) := by decide +kernel
theorem dX10_alarm_0 : decode cX10_alarm 0 = .ok (.aload_n 0, 1) := by decide +kernel
theorem dX10_alarm_1 : decode cX10_alarm 1 = .ok (.iload_n 1, 1) := by decide +kernel
theorem dX10_alarm_2 : decode cX10_alarm 2 = .ok (.invokevirtual 236, 3) := by decide +kernel
theorem dX10_alarm_5 : decode cX10_alarm 5 = .ok (.ifCond .ne 6, 3) := by decide +kernel
theorem dX10_alarm_8 : decode cX10_alarm 8 = .ok (.bipush (-5), 2) := by decide +kernel
theorem dX10_alarm_10 : decode cX10_alarm 10 = .ok (.ireturn, 1) := by decide +kernel
theorem dX10_alarm_11 : decode cX10_alarm 11 = .ok (.aload_n 0, 1) := by decide +kernel
theorem dX10_alarm_12 : decode cX10_alarm 12 = .ok (.iload_n 2, 1) := by decide +kernel
theorem dX10_alarm_13 : decode cX10_alarm 13 = .ok (.invokevirtual 291, 3) := by decide +kernel
theorem dX10_alarm_16 : decode cX10_alarm 16 = .ok (.ifCond .eq 13, 3) := by decide +kernel
theorem dX10_alarm_19 : decode cX10_alarm 19 = .ok (.iload_n 3, 1) := by decide +kernel
theorem dX10_alarm_20 : decode cX10_alarm 20 = .ok (.iconst 0, 1) := by decide +kernel
theorem dX10_alarm_21 : decode cX10_alarm 21 = .ok (.bipush 10, 2) := by decide +kernel
theorem dX10_alarm_23 : decode cX10_alarm 23 = .ok (.invokestatic 132, 3) := by decide +kernel
theorem dX10_alarm_26 : decode cX10_alarm 26 = .ok (.ifCond .ne 6, 3) := by decide +kernel
theorem dX10_alarm_29 : decode cX10_alarm 29 = .ok (.bipush (-7), 2) := by decide +kernel
theorem dX10_alarm_31 : decode cX10_alarm 31 = .ok (.ireturn, 1) := by decide +kernel
theorem dX10_alarm_32 : decode cX10_alarm 32 = .ok (.aload_n 0, 1) := by decide +kernel
theorem dX10_alarm_33 : decode cX10_alarm 33 = .ok (.getfield 43, 3) := by decide +kernel
theorem dX10_alarm_36 : decode cX10_alarm 36 = .ok (.iload_n 1, 1) := by decide +kernel
theorem dX10_alarm_37 : decode cX10_alarm 37 = .ok (.iaload, 1) := by decide +kernel
theorem dX10_alarm_38 : decode cX10_alarm 38 = .ok (.iconst (-1), 1) := by decide +kernel
theorem dX10_alarm_39 : decode cX10_alarm 39 = .ok (.if_icmp .ne 6, 3) := by decide +kernel
theorem dX10_alarm_42 : decode cX10_alarm 42 = .ok (.bipush (-3), 2) := by decide +kernel
theorem dX10_alarm_44 : decode cX10_alarm 44 = .ok (.ireturn, 1) := by decide +kernel
theorem dX10_alarm_45 : decode cX10_alarm 45 = .ok (.aload_n 0, 1) := by decide +kernel
theorem dX10_alarm_46 : decode cX10_alarm 46 = .ok (.iload_n 2, 1) := by decide +kernel
theorem dX10_alarm_47 : decode cX10_alarm 47 = .ok (.invokevirtual 294, 3) := by decide +kernel
theorem dX10_alarm_50 : decode cX10_alarm 50 = .ok (.aload_n 0, 1) := by decide +kernel
theorem dX10_alarm_51 : decode cX10_alarm 51 = .ok (.iload_n 1, 1) := by decide +kernel
theorem dX10_alarm_52 : decode cX10_alarm 52 = .ok (.iload_n 2, 1) := by decide +kernel
theorem dX10_alarm_53 : decode cX10_alarm 53 = .ok (.iload_n 3, 1) := by decide +kernel
theorem dX10_alarm_54 : decode cX10_alarm 54 = .ok (.invokevirtual 306, 3) := by decide +kernel
theorem dX10_alarm_57 : decode cX10_alarm 57 = .ok (.ireturn, 1) := by decide +kernel
theorem dX10_size__0 : decode cX10_size_ 0 = .ok (.aload_n 0, 1) := by decide +kernel
theorem dX10_size__1 : decode cX10_size_ 1 = .ok (.iload_n 1, 1) := by decide +kernel
theorem dX10_size__2 : decode cX10_size_ 2 = .ok (.invokevirtual 236, 3) := by decide +kernel
theorem dX10_size__5 : decode cX10_size_ 5 = .ok (.ifCond .ne 6, 3) := by decide +kernel
theorem dX10_size__8 : decode cX10_size_ 8 = .ok (.bipush (-5), 2) := by decide +kernel
theorem dX10_size__10 : decode cX10_size_ 10 = .ok (.ireturn, 1) := by decide +kernel
theorem dX10_size__11 : decode cX10_size_ 11 = .ok (.aload_n 0, 1) := by decide +kernel
theorem dX10_size__12 : decode cX10_size_ 12 = .ok (.iload_n 2, 1) := by decide +kernel
theorem dX10_size__13 : decode cX10_size_ 13 = .ok (.invokevirtual 291, 3) := by decide +kernel
theorem dX10_size__16 : decode cX10_size_ 16 = .ok (.ifCond .eq 12, 3) := by decide +kernel
theorem dX10_size__19 : decode cX10_size_ 19 = .ok (.iload_n 3, 1) := by decide +kernel
theorem dX10_size__20 : decode cX10_size_ 20 = .ok (.iconst 0, 1) := by decide +kernel
theorem dX10_size__21 : decode cX10_size_ 21 = .ok (.iconst 1, 1) := by decide +kernel
theorem dX10_size__22 : decode cX10_size_ 22 = .ok (.invokestatic 132, 3) := by decide +kernel
theorem dX10_size__25 : decode cX10_size_ 25 = .ok (.ifCond .ne 6, 3) := by decide +kernel
theorem dX10_size__28 : decode cX10_size_ 28 = .ok (.bipush (-7), 2) := by decide +kernel
theorem dX10_size__30 : decode cX10_size_ 30 = .ok (.ireturn, 1) := by decide +kernel
theorem dX10_size__31 : decode cX10_size_ 31 = .ok (.aload_n 0, 1) := by decide +kernel
theorem dX10_size__32 : decode cX10_size_ 32 = .ok (.getfield 43, 3) := by decide +kernel
theorem dX10_size__35 : decode cX10_size_ 35 = .ok (.iload_n 1, 1) := by decide +kernel
theorem dX10_size__36 : decode cX10_size_ 36 = .ok (.iaload, 1) := by decide +kernel
theorem dX10_size__37 : decode cX10_size_ 37 = .ok (.iconst (-1), 1) := by decide +kernel
theorem dX10_size__38 : decode cX10_size_ 38 = .ok (.if_icmp .ne 6, 3) := by decide +kernel
theorem dX10_size__41 : decode cX10_size_ 41 = .ok (.bipush (-3), 2) := by decide +kernel
theorem dX10_size__43 : decode cX10_size_ 43 = .ok (.ireturn, 1) := by decide +kernel
theorem dX10_size__44 : decode cX10_size_ 44 = .ok (.aload_n 0, 1) := by decide +kernel
theorem dX10_size__45 : decode cX10_size_ 45 = .ok (.iload_n 2, 1) := by decide +kernel
theorem dX10_size__46 : decode cX10_size_ 46 = .ok (.invokevirtual 294, 3) := by decide +kernel
theorem dX10_size__49 : decode cX10_size_ 49 = .ok (.iconst 0, 1) := by decide +kernel
theorem dX10_size__50 : decode cX10_size_ 50 = .ok (.istore 4, 2) := by decide +kernel
theorem dX10_size__52 : decode cX10_size_ 52 = .ok (.iload 4, 2) := by decide +kernel
theorem dX10_size__54 : decode cX10_size_ 54 = .ok (.bipush 10, 2) := by decide +kernel
theorem dX10_size__56 : decode cX10_size_ 56 = .ok (.if_icmp .ge 48, 3) := by decide +kernel
theorem dX10_size__59 : decode cX10_size_ 59 = .ok (.aload_n 0, 1) := by decide +kernel
theorem dX10_size__60 : decode cX10_size_ 60 = .ok (.iload_n 1, 1) := by decide +kernel
theorem dX10_size__61 : decode cX10_size_ 61 = .ok (.iload_n 2, 1) := by decide +kernel
theorem dX10_size__62 : decode cX10_size_ 62 = .ok (.iload 4, 2) := by decide +kernel
theorem dX10_size__64 : decode cX10_size_ 64 = .ok (.invokevirtual 306, 3) := by decide +kernel
theorem dX10_size__67 : decode cX10_size_ 67 = .ok (.iconst (-1), 1) := by decide +kernel
theorem dX10_size__68 : decode cX10_size_ 68 = .ok (.if_icmp .eq 36, 3) := by decide +kernel
theorem dX10_size__71 : decode cX10_size_ 71 = .ok (.aload_n 0, 1) := by decide +kernel
theorem dX10_size__72 : decode cX10_size_ 72 = .ok (.getfield 109, 3) := by decide +kernel
theorem dX10_size__75 : decode cX10_size_ 75 = .ok (.iload_n 1, 1) := by decide +kernel
theorem dX10_size__76 : decode cX10_size_ 76 = .ok (.iaload, 1) := by decide +kernel
theorem dX10_size__77 : decode cX10_size_ 77 = .ok (.iconst (-1), 1) := by decide +kernel
theorem dX10_size__78 : decode cX10_size_ 78 = .ok (.if_icmp .eq 20, 3) := by decide +kernel
theorem dX10_size__81 : decode cX10_size_ 81 = .ok (.aload_n 0, 1) := by decide +kernel
theorem dX10_size__82 : decode cX10_size_ 82 = .ok (.iload_n 1, 1) := by decide +kernel
theorem dX10_size__83 : decode cX10_size_ 83 = .ok (.iload_n 2, 1) := by decide +kernel
theorem dX10_size__84 : decode cX10_size_ 84 = .ok (.iload 4, 2) := by decide +kernel
theorem dX10_size__86 : decode cX10_size_ 86 = .ok (.invokevirtual 306, 3) := by decide +kernel
theorem dX10_size__89 : decode cX10_size_ 89 = .ok (.aload_n 0, 1) := by decide +kernel
theorem dX10_size__90 : decode cX10_size_ 90 = .ok (.getfield 109, 3) := by decide +kernel
theorem dX10_size__93 : decode cX10_size_ 93 = .ok (.iload_n 1, 1) := by decide +kernel
theorem dX10_size__94 : decode cX10_size_ 94 = .ok (.iaload, 1) := by decide +kernel
theorem dX10_size__95 : decode cX10_size_ 95 = .ok (.if_icmp .ge 9, 3) := by decide +kernel
theorem dX10_size__98 : decode cX10_size_ 98 = .ok (.iinc 4 1, 3) := by decide +kernel
theorem dX10_size__101 : decode cX10_size_ 101 = .ok (.goto (-49), 3) := by decide +kernel
theorem dX10_size__104 : decode cX10_size_ 104 = .ok (.aload_n 0, 1) := by decide +kernel
theorem dX10_size__105 : decode cX10_size_ 105 = .ok (.iload_n 1, 1) := by decide +kernel
theorem dX10_size__106 : decode cX10_size_ 106 = .ok (.iload_n 2, 1) := by decide +kernel
theorem dX10_size__107 : decode cX10_size_ 107 = .ok (.iload 4, 2) := by decide +kernel
theorem dX10_size__109 : decode cX10_size_ 109 = .ok (.invokevirtual 306, 3) := by decide +kernel
theorem dX10_size__112 : decode cX10_size_ 112 = .ok (.istore 5, 2) := by decide +kernel
theorem dX10_size__114 : decode cX10_size_ 114 = .ok (.iload_n 3, 1) := by decide +kernel
theorem dX10_size__115 : decode cX10_size_ 115 = .ok (.ifCond .ne 8, 3) := by decide +kernel
theorem dX10_size__118 : decode cX10_size_ 118 = .ok (.iload 4, 2) := by decide +kernel
theorem dX10_size__120 : decode cX10_size_ 120 = .ok (.goto 32, 3) := by decide +kernel
theorem dX10_size__123 : decode cX10_size_ 123 = .ok (.iload 5, 2) := by decide +kernel
theorem dX10_size__125 : decode cX10_size_ 125 = .ok (.iconst (-1), 1) := by decide +kernel
theorem dX10_size__126 : decode cX10_size_ 126 = .ok (.if_icmp .eq 13, 3) := by decide +kernel
theorem dX10_size__129 : decode cX10_size_ 129 = .ok (.aload_n 0, 1) := by decide +kernel
theorem dX10_size__130 : decode cX10_size_ 130 = .ok (.getfield 109, 3) := by decide +kernel
theorem dX10_size__133 : decode cX10_size_ 133 = .ok (.iload_n 1, 1) := by decide +kernel
theorem dX10_size__134 : decode cX10_size_ 134 = .ok (.iaload, 1) := by decide +kernel
theorem dX10_size__135 : decode cX10_size_ 135 = .ok (.iconst (-1), 1) := by decide +kernel
theorem dX10_size__136 : decode cX10_size_ 136 = .ok (.if_icmp .ne 7, 3) := by decide +kernel
theorem dX10_size__139 : decode cX10_size_ 139 = .ok (.iconst (-1), 1) := by decide +kernel
theorem dX10_size__140 : decode cX10_size_ 140 = .ok (.goto 12, 3) := by decide +kernel
theorem dX10_size__143 : decode cX10_size_ 143 = .ok (.iload 5, 2) := by decide +kernel
theorem dX10_size__145 : decode cX10_size_ 145 = .ok (.aload_n 0, 1) := by decide +kernel
theorem dX10_size__146 : decode cX10_size_ 146 = .ok (.getfield 109, 3) := by decide +kernel
theorem dX10_size__149 : decode cX10_size_ 149 = .ok (.iload_n 1, 1) := by decide +kernel
theorem dX10_size__150 : decode cX10_size_ 150 = .ok (.iaload, 1) := by decide +kernel
theorem dX10_size__151 : decode cX10_size_ 151 = .ok (.isub, 1) := by decide +kernel
theorem dX10_size__152 : decode cX10_size_ 152 = .ok (.ireturn, 1) := by decide +kernel
theorem dX10_crossOf_0 : decode cX10_crossOf 0 = .ok (.iload_n 1, 1) := by decide +kernel
theorem dX10_crossOf_1 : decode cX10_crossOf 1 = .ok (.bipush 10, 2) := by decide +kernel
theorem dX10_crossOf_3 : decode cX10_crossOf 3 = .ok (.irem, 1) := by decide +kernel
theorem dX10_crossOf_4 : decode cX10_crossOf 4 = .ok (.iload_n 0, 1) := by decide +kernel
theorem dX10_crossOf_5 : decode cX10_crossOf 5 = .ok (.bipush 10, 2) := by decide +kernel
theorem dX10_crossOf_7 : decode cX10_crossOf 7 = .ok (.irem, 1) := by decide +kernel
theorem dX10_crossOf_8 : decode cX10_crossOf 8 = .ok (.isub, 1) := by decide +kernel
theorem dX10_crossOf_9 : decode cX10_crossOf 9 = .ok (.iload_n 2, 1) := by decide +kernel
theorem dX10_crossOf_10 : decode cX10_crossOf 10 = .ok (.bipush 10, 2) := by decide +kernel
theorem dX10_crossOf_12 : decode cX10_crossOf 12 = .ok (.idiv, 1) := by decide +kernel
theorem dX10_crossOf_13 : decode cX10_crossOf 13 = .ok (.iload_n 0, 1) := by decide +kernel
theorem dX10_crossOf_14 : decode cX10_crossOf 14 = .ok (.bipush 10, 2) := by decide +kernel
theorem dX10_crossOf_16 : decode cX10_crossOf 16 = .ok (.idiv, 1) := by decide +kernel
theorem dX10_crossOf_17 : decode cX10_crossOf 17 = .ok (.isub, 1) := by decide +kernel
theorem dX10_crossOf_18 : decode cX10_crossOf 18 = .ok (.imul, 1) := by decide +kernel
theorem dX10_crossOf_19 : decode cX10_crossOf 19 = .ok (.iload_n 1, 1) := by decide +kernel
theorem dX10_crossOf_20 : decode cX10_crossOf 20 = .ok (.bipush 10, 2) := by decide +kernel
theorem dX10_crossOf_22 : decode cX10_crossOf 22 = .ok (.idiv, 1) := by decide +kernel
theorem dX10_crossOf_23 : decode cX10_crossOf 23 = .ok (.iload_n 0, 1) := by decide +kernel
theorem dX10_crossOf_24 : decode cX10_crossOf 24 = .ok (.bipush 10, 2) := by decide +kernel
theorem dX10_crossOf_26 : decode cX10_crossOf 26 = .ok (.idiv, 1) := by decide +kernel
theorem dX10_crossOf_27 : decode cX10_crossOf 27 = .ok (.isub, 1) := by decide +kernel
theorem dX10_crossOf_28 : decode cX10_crossOf 28 = .ok (.iload_n 2, 1) := by decide +kernel
theorem dX10_crossOf_29 : decode cX10_crossOf 29 = .ok (.bipush 10, 2) := by decide +kernel
theorem dX10_crossOf_31 : decode cX10_crossOf 31 = .ok (.irem, 1) := by decide +kernel
theorem dX10_crossOf_32 : decode cX10_crossOf 32 = .ok (.iload_n 0, 1) := by decide +kernel
theorem dX10_crossOf_33 : decode cX10_crossOf 33 = .ok (.bipush 10, 2) := by decide +kernel
theorem dX10_crossOf_35 : decode cX10_crossOf 35 = .ok (.irem, 1) := by decide +kernel
theorem dX10_crossOf_36 : decode cX10_crossOf 36 = .ok (.isub, 1) := by decide +kernel
theorem dX10_crossOf_37 : decode cX10_crossOf 37 = .ok (.imul, 1) := by decide +kernel
theorem dX10_crossOf_38 : decode cX10_crossOf 38 = .ok (.isub, 1) := by decide +kernel
theorem dX10_crossOf_39 : decode cX10_crossOf 39 = .ok (.ireturn, 1) := by decide +kernel
theorem dX10_line_0 : decode cX10_line 0 = .ok (.iload_n 1, 1) := by decide +kernel
theorem dX10_line_1 : decode cX10_line 1 = .ok (.invokestatic 142, 3) := by decide +kernel
theorem dX10_line_4 : decode cX10_line 4 = .ok (.ifCond .eq 31, 3) := by decide +kernel
theorem dX10_line_7 : decode cX10_line 7 = .ok (.iload_n 2, 1) := by decide +kernel
theorem dX10_line_8 : decode cX10_line 8 = .ok (.invokestatic 142, 3) := by decide +kernel
theorem dX10_line_11 : decode cX10_line 11 = .ok (.ifCond .eq 24, 3) := by decide +kernel
theorem dX10_line_14 : decode cX10_line 14 = .ok (.iload_n 3, 1) := by decide +kernel
theorem dX10_line_15 : decode cX10_line 15 = .ok (.invokestatic 142, 3) := by decide +kernel
theorem dX10_line_18 : decode cX10_line 18 = .ok (.ifCond .eq 17, 3) := by decide +kernel
theorem dX10_line_21 : decode cX10_line 21 = .ok (.iload_n 1, 1) := by decide +kernel
theorem dX10_line_22 : decode cX10_line 22 = .ok (.iload_n 2, 1) := by decide +kernel
theorem dX10_line_23 : decode cX10_line 23 = .ok (.if_icmp .eq 12, 3) := by decide +kernel
theorem dX10_line_26 : decode cX10_line 26 = .ok (.iload_n 1, 1) := by decide +kernel
theorem dX10_line_27 : decode cX10_line 27 = .ok (.iload_n 2, 1) := by decide +kernel
theorem dX10_line_28 : decode cX10_line 28 = .ok (.iload_n 3, 1) := by decide +kernel
theorem dX10_line_29 : decode cX10_line 29 = .ok (.invokestatic 309, 3) := by decide +kernel
theorem dX10_line_32 : decode cX10_line 32 = .ok (.goto 6, 3) := by decide +kernel
theorem dX10_line_35 : decode cX10_line 35 = .ok (.ldc_w 312, 3) := by decide +kernel
theorem dX10_line_38 : decode cX10_line 38 = .ok (.ireturn, 1) := by decide +kernel
theorem dX10_marks_0 : decode cX10_marks 0 = .ok (.aload_n 0, 1) := by decide +kernel
theorem dX10_marks_1 : decode cX10_marks 1 = .ok (.iload_n 1, 1) := by decide +kernel
theorem dX10_marks_2 : decode cX10_marks 2 = .ok (.invokevirtual 236, 3) := by decide +kernel
theorem dX10_marks_5 : decode cX10_marks 5 = .ok (.ifCond .ne 6, 3) := by decide +kernel
theorem dX10_marks_8 : decode cX10_marks 8 = .ok (.bipush (-5), 2) := by decide +kernel
theorem dX10_marks_10 : decode cX10_marks 10 = .ok (.ireturn, 1) := by decide +kernel
theorem dX10_marks_11 : decode cX10_marks 11 = .ok (.aload_n 0, 1) := by decide +kernel
theorem dX10_marks_12 : decode cX10_marks 12 = .ok (.iload_n 2, 1) := by decide +kernel
theorem dX10_marks_13 : decode cX10_marks 13 = .ok (.invokevirtual 291, 3) := by decide +kernel
theorem dX10_marks_16 : decode cX10_marks 16 = .ok (.ifCond .eq 36, 3) := by decide +kernel
theorem dX10_marks_19 : decode cX10_marks 19 = .ok (.iload_n 3, 1) := by decide +kernel
theorem dX10_marks_20 : decode cX10_marks 20 = .ok (.iconst 0, 1) := by decide +kernel
theorem dX10_marks_21 : decode cX10_marks 21 = .ok (.sipush 9999, 3) := by decide +kernel
theorem dX10_marks_24 : decode cX10_marks 24 = .ok (.invokestatic 132, 3) := by decide +kernel
theorem dX10_marks_27 : decode cX10_marks 27 = .ok (.ifCond .eq 25, 3) := by decide +kernel
theorem dX10_marks_30 : decode cX10_marks 30 = .ok (.iload_n 3, 1) := by decide +kernel
theorem dX10_marks_31 : decode cX10_marks 31 = .ok (.bipush 100, 2) := by decide +kernel
theorem dX10_marks_33 : decode cX10_marks 33 = .ok (.idiv, 1) := by decide +kernel
theorem dX10_marks_34 : decode cX10_marks 34 = .ok (.iload_n 3, 1) := by decide +kernel
theorem dX10_marks_35 : decode cX10_marks 35 = .ok (.bipush 100, 2) := by decide +kernel
theorem dX10_marks_37 : decode cX10_marks 37 = .ok (.irem, 1) := by decide +kernel
theorem dX10_marks_38 : decode cX10_marks 38 = .ok (.if_icmp .eq 14, 3) := by decide +kernel
theorem dX10_marks_41 : decode cX10_marks 41 = .ok (.iload 4, 2) := by decide +kernel
theorem dX10_marks_43 : decode cX10_marks 43 = .ok (.iconst 0, 1) := by decide +kernel
theorem dX10_marks_44 : decode cX10_marks 44 = .ok (.bipush 99, 2) := by decide +kernel
theorem dX10_marks_46 : decode cX10_marks 46 = .ok (.invokestatic 132, 3) := by decide +kernel
theorem dX10_marks_49 : decode cX10_marks 49 = .ok (.ifCond .ne 6, 3) := by decide +kernel
theorem dX10_marks_52 : decode cX10_marks 52 = .ok (.bipush (-7), 2) := by decide +kernel
theorem dX10_marks_54 : decode cX10_marks 54 = .ok (.ireturn, 1) := by decide +kernel
theorem dX10_marks_55 : decode cX10_marks 55 = .ok (.aload_n 0, 1) := by decide +kernel
theorem dX10_marks_56 : decode cX10_marks 56 = .ok (.iload_n 2, 1) := by decide +kernel
theorem dX10_marks_57 : decode cX10_marks 57 = .ok (.invokevirtual 294, 3) := by decide +kernel
theorem dX10_marks_60 : decode cX10_marks 60 = .ok (.iconst 0, 1) := by decide +kernel
theorem dX10_marks_61 : decode cX10_marks 61 = .ok (.istore 5, 2) := by decide +kernel
theorem dX10_marks_63 : decode cX10_marks 63 = .ok (.aload_n 0, 1) := by decide +kernel
theorem dX10_marks_64 : decode cX10_marks 64 = .ok (.getfield 139, 3) := by decide +kernel
theorem dX10_marks_67 : decode cX10_marks 67 = .ok (.istore 6, 2) := by decide +kernel
theorem dX10_marks_69 : decode cX10_marks 69 = .ok (.iload 6, 2) := by decide +kernel
theorem dX10_marks_71 : decode cX10_marks 71 = .ok (.aload_n 0, 1) := by decide +kernel
theorem dX10_marks_72 : decode cX10_marks 72 = .ok (.getfield 139, 3) := by decide +kernel
theorem dX10_marks_75 : decode cX10_marks 75 = .ok (.iload_n 2, 1) := by decide +kernel
theorem dX10_marks_76 : decode cX10_marks 76 = .ok (.iadd, 1) := by decide +kernel
theorem dX10_marks_77 : decode cX10_marks 77 = .ok (.if_icmp .ge 81, 3) := by decide +kernel
theorem dX10_marks_80 : decode cX10_marks 80 = .ok (.aload_n 0, 1) := by decide +kernel
theorem dX10_marks_81 : decode cX10_marks 81 = .ok (.getfield 112, 3) := by decide +kernel
theorem dX10_marks_84 : decode cX10_marks 84 = .ok (.bipush 6, 2) := by decide +kernel
theorem dX10_marks_86 : decode cX10_marks 86 = .ok (.iload 6, 2) := by decide +kernel
theorem dX10_marks_88 : decode cX10_marks 88 = .ok (.imul, 1) := by decide +kernel
theorem dX10_marks_89 : decode cX10_marks 89 = .ok (.iload_n 1, 1) := by decide +kernel
theorem dX10_marks_90 : decode cX10_marks 90 = .ok (.iadd, 1) := by decide +kernel
theorem dX10_marks_91 : decode cX10_marks 91 = .ok (.iaload, 1) := by decide +kernel
theorem dX10_marks_92 : decode cX10_marks 92 = .ok (.istore 7, 2) := by decide +kernel
theorem dX10_marks_94 : decode cX10_marks 94 = .ok (.iload 7, 2) := by decide +kernel
theorem dX10_marks_96 : decode cX10_marks 96 = .ok (.iconst (-1), 1) := by decide +kernel
theorem dX10_marks_97 : decode cX10_marks 97 = .ok (.if_icmp .ne 6, 3) := by decide +kernel
theorem dX10_marks_100 : decode cX10_marks 100 = .ok (.iload 6, 2) := by decide +kernel
theorem dX10_marks_102 : decode cX10_marks 102 = .ok (.ireturn, 1) := by decide +kernel
theorem dX10_marks_103 : decode cX10_marks 103 = .ok (.iload_n 3, 1) := by decide +kernel
theorem dX10_marks_104 : decode cX10_marks 104 = .ok (.bipush 100, 2) := by decide +kernel
theorem dX10_marks_106 : decode cX10_marks 106 = .ok (.idiv, 1) := by decide +kernel
theorem dX10_marks_107 : decode cX10_marks 107 = .ok (.iload_n 3, 1) := by decide +kernel
theorem dX10_marks_108 : decode cX10_marks 108 = .ok (.bipush 100, 2) := by decide +kernel
theorem dX10_marks_110 : decode cX10_marks 110 = .ok (.irem, 1) := by decide +kernel
theorem dX10_marks_111 : decode cX10_marks 111 = .ok (.iload 7, 2) := by decide +kernel
theorem dX10_marks_113 : decode cX10_marks 113 = .ok (.invokestatic 309, 3) := by decide +kernel
theorem dX10_marks_116 : decode cX10_marks 116 = .ok (.istore 8, 2) := by decide +kernel
theorem dX10_marks_118 : decode cX10_marks 118 = .ok (.iload 6, 2) := by decide +kernel
theorem dX10_marks_120 : decode cX10_marks 120 = .ok (.aload_n 0, 1) := by decide +kernel
theorem dX10_marks_121 : decode cX10_marks 121 = .ok (.getfield 139, 3) := by decide +kernel
theorem dX10_marks_124 : decode cX10_marks 124 = .ok (.if_icmp .ne 8, 3) := by decide +kernel
theorem dX10_marks_127 : decode cX10_marks 127 = .ok (.iload 8, 2) := by decide +kernel
theorem dX10_marks_129 : decode cX10_marks 129 = .ok (.goto 5, 3) := by decide +kernel
theorem dX10_marks_132 : decode cX10_marks 132 = .ok (.iload 5, 2) := by decide +kernel
theorem dX10_marks_134 : decode cX10_marks 134 = .ok (.istore 5, 2) := by decide +kernel
theorem dX10_marks_136 : decode cX10_marks 136 = .ok (.iload 8, 2) := by decide +kernel
theorem dX10_marks_138 : decode cX10_marks 138 = .ok (.iload 5, 2) := by decide +kernel
theorem dX10_marks_140 : decode cX10_marks 140 = .ok (.isub, 1) := by decide +kernel
theorem dX10_marks_141 : decode cX10_marks 141 = .ok (.invokestatic 256, 3) := by decide +kernel
theorem dX10_marks_144 : decode cX10_marks 144 = .ok (.iload 4, 2) := by decide +kernel
theorem dX10_marks_146 : decode cX10_marks 146 = .ok (.if_icmp .le 6, 3) := by decide +kernel
theorem dX10_marks_149 : decode cX10_marks 149 = .ok (.iload 6, 2) := by decide +kernel
theorem dX10_marks_151 : decode cX10_marks 151 = .ok (.ireturn, 1) := by decide +kernel
theorem dX10_marks_152 : decode cX10_marks 152 = .ok (.iinc 6 1, 3) := by decide +kernel
theorem dX10_marks_155 : decode cX10_marks 155 = .ok (.goto (-86), 3) := by decide +kernel
theorem dX10_marks_158 : decode cX10_marks 158 = .ok (.iconst (-1), 1) := by decide +kernel
theorem dX10_marks_159 : decode cX10_marks 159 = .ok (.ireturn, 1) := by decide +kernel
theorem dX10_leastFrom_0 : decode cX10_leastFrom 0 = .ok (.iload 4, 2) := by decide +kernel
theorem dX10_leastFrom_2 : decode cX10_leastFrom 2 = .ok (.ifCond .eq 9, 3) := by decide +kernel
theorem dX10_leastFrom_5 : decode cX10_leastFrom 5 = .ok (.iload_n 3, 1) := by decide +kernel
theorem dX10_leastFrom_6 : decode cX10_leastFrom 6 = .ok (.bipush 12, 2) := by decide +kernel
theorem dX10_leastFrom_8 : decode cX10_leastFrom 8 = .ok (.if_icmp .lt 5, 3) := by decide +kernel
theorem dX10_leastFrom_11 : decode cX10_leastFrom 11 = .ok (.iconst 0, 1) := by decide +kernel
theorem dX10_leastFrom_12 : decode cX10_leastFrom 12 = .ok (.ireturn, 1) := by decide +kernel
theorem dX10_leastFrom_13 : decode cX10_leastFrom 13 = .ok (.aload_n 0, 1) := by decide +kernel
theorem dX10_leastFrom_14 : decode cX10_leastFrom 14 = .ok (.iload_n 1, 1) := by decide +kernel
theorem dX10_leastFrom_15 : decode cX10_leastFrom 15 = .ok (.iload_n 2, 1) := by decide +kernel
theorem dX10_leastFrom_16 : decode cX10_leastFrom 16 = .ok (.iload_n 3, 1) := by decide +kernel
theorem dX10_leastFrom_17 : decode cX10_leastFrom 17 = .ok (.iload 4, 2) := by decide +kernel
theorem dX10_leastFrom_19 : decode cX10_leastFrom 19 = .ok (.iload 5, 2) := by decide +kernel
theorem dX10_leastFrom_21 : decode cX10_leastFrom 21 = .ok (.iload 6, 2) := by decide +kernel
theorem dX10_leastFrom_23 : decode cX10_leastFrom 23 = .ok (.iconst 0, 1) := by decide +kernel
theorem dX10_leastFrom_24 : decode cX10_leastFrom 24 = .ok (.invokevirtual 313, 3) := by decide +kernel
theorem dX10_leastFrom_27 : decode cX10_leastFrom 27 = .ok (.istore 7, 2) := by decide +kernel
theorem dX10_leastFrom_29 : decode cX10_leastFrom 29 = .ok (.iconst 1, 1) := by decide +kernel
theorem dX10_leastFrom_30 : decode cX10_leastFrom 30 = .ok (.istore 8, 2) := by decide +kernel
theorem dX10_leastFrom_32 : decode cX10_leastFrom 32 = .ok (.iload 8, 2) := by decide +kernel
theorem dX10_leastFrom_34 : decode cX10_leastFrom 34 = .ok (.iconst 4, 1) := by decide +kernel
theorem dX10_leastFrom_35 : decode cX10_leastFrom 35 = .ok (.if_icmp .gt 42, 3) := by decide +kernel
theorem dX10_leastFrom_38 : decode cX10_leastFrom 38 = .ok (.aload_n 0, 1) := by decide +kernel
theorem dX10_leastFrom_39 : decode cX10_leastFrom 39 = .ok (.iload_n 1, 1) := by decide +kernel
theorem dX10_leastFrom_40 : decode cX10_leastFrom 40 = .ok (.iload_n 2, 1) := by decide +kernel
theorem dX10_leastFrom_41 : decode cX10_leastFrom 41 = .ok (.iload_n 3, 1) := by decide +kernel
theorem dX10_leastFrom_42 : decode cX10_leastFrom 42 = .ok (.iload 4, 2) := by decide +kernel
theorem dX10_leastFrom_44 : decode cX10_leastFrom 44 = .ok (.iload 5, 2) := by decide +kernel
theorem dX10_leastFrom_46 : decode cX10_leastFrom 46 = .ok (.iload 6, 2) := by decide +kernel
theorem dX10_leastFrom_48 : decode cX10_leastFrom 48 = .ok (.iload 8, 2) := by decide +kernel
theorem dX10_leastFrom_50 : decode cX10_leastFrom 50 = .ok (.invokevirtual 313, 3) := by decide +kernel
theorem dX10_leastFrom_53 : decode cX10_leastFrom 53 = .ok (.istore 9, 2) := by decide +kernel
theorem dX10_leastFrom_55 : decode cX10_leastFrom 55 = .ok (.iload 9, 2) := by decide +kernel
theorem dX10_leastFrom_57 : decode cX10_leastFrom 57 = .ok (.iload 7, 2) := by decide +kernel
theorem dX10_leastFrom_59 : decode cX10_leastFrom 59 = .ok (.if_icmp .ge 8, 3) := by decide +kernel
theorem dX10_leastFrom_62 : decode cX10_leastFrom 62 = .ok (.iload 9, 2) := by decide +kernel
theorem dX10_leastFrom_64 : decode cX10_leastFrom 64 = .ok (.goto 5, 3) := by decide +kernel
theorem dX10_leastFrom_67 : decode cX10_leastFrom 67 = .ok (.iload 7, 2) := by decide +kernel
theorem dX10_leastFrom_69 : decode cX10_leastFrom 69 = .ok (.istore 7, 2) := by decide +kernel
theorem dX10_leastFrom_71 : decode cX10_leastFrom 71 = .ok (.iinc 8 1, 3) := by decide +kernel
theorem dX10_leastFrom_74 : decode cX10_leastFrom 74 = .ok (.goto (-42), 3) := by decide +kernel
theorem dX10_leastFrom_77 : decode cX10_leastFrom 77 = .ok (.iload 7, 2) := by decide +kernel
theorem dX10_leastFrom_79 : decode cX10_leastFrom 79 = .ok (.ireturn, 1) := by decide +kernel
theorem dX10_byAct_0 : decode cX10_byAct 0 = .ok (.iload 7, 2) := by decide +kernel
theorem dX10_byAct_2 : decode cX10_byAct 2 = .ok (.iconst 4, 1) := by decide +kernel
theorem dX10_byAct_3 : decode cX10_byAct 3 = .ok (.if_icmp .ne 6, 3) := by decide +kernel
theorem dX10_byAct_6 : decode cX10_byAct 6 = .ok (.bipush 9, 2) := by decide +kernel
theorem dX10_byAct_8 : decode cX10_byAct 8 = .ok (.ireturn, 1) := by decide +kernel
theorem dX10_byAct_9 : decode cX10_byAct 9 = .ok (.iload 7, 2) := by decide +kernel
theorem dX10_byAct_11 : decode cX10_byAct 11 = .ok (.iconst 1, 1) := by decide +kernel
theorem dX10_byAct_12 : decode cX10_byAct 12 = .ok (.if_icmp .ne 16, 3) := by decide +kernel
theorem dX10_byAct_15 : decode cX10_byAct 15 = .ok (.iload 5, 2) := by decide +kernel
theorem dX10_byAct_17 : decode cX10_byAct 17 = .ok (.iconst 5, 1) := by decide +kernel
theorem dX10_byAct_18 : decode cX10_byAct 18 = .ok (.iadd, 1) := by decide +kernel
theorem dX10_byAct_19 : decode cX10_byAct 19 = .ok (.iconst 1, 1) := by decide +kernel
theorem dX10_byAct_20 : decode cX10_byAct 20 = .ok (.bipush 40, 2) := by decide +kernel
theorem dX10_byAct_22 : decode cX10_byAct 22 = .ok (.invokestatic 226, 3) := by decide +kernel
theorem dX10_byAct_25 : decode cX10_byAct 25 = .ok (.goto 5, 3) := by decide +kernel
theorem dX10_byAct_28 : decode cX10_byAct 28 = .ok (.iload 5, 2) := by decide +kernel
theorem dX10_byAct_30 : decode cX10_byAct 30 = .ok (.istore 8, 2) := by decide +kernel
theorem dX10_byAct_32 : decode cX10_byAct 32 = .ok (.iload 7, 2) := by decide +kernel
theorem dX10_byAct_34 : decode cX10_byAct 34 = .ok (.iconst 3, 1) := by decide +kernel
theorem dX10_byAct_35 : decode cX10_byAct 35 = .ok (.if_icmp .ne 11, 3) := by decide +kernel
theorem dX10_byAct_38 : decode cX10_byAct 38 = .ok (.iload 6, 2) := by decide +kernel
theorem dX10_byAct_40 : decode cX10_byAct 40 = .ok (.bipush 50, 2) := by decide +kernel
theorem dX10_byAct_42 : decode cX10_byAct 42 = .ok (.iadd, 1) := by decide +kernel
theorem dX10_byAct_43 : decode cX10_byAct 43 = .ok (.goto 5, 3) := by decide +kernel
theorem dX10_byAct_46 : decode cX10_byAct 46 = .ok (.iload 6, 2) := by decide +kernel
theorem dX10_byAct_48 : decode cX10_byAct 48 = .ok (.istore 9, 2) := by decide +kernel
theorem dX10_byAct_50 : decode cX10_byAct 50 = .ok (.iload 7, 2) := by decide +kernel
theorem dX10_byAct_52 : decode cX10_byAct 52 = .ok (.iconst 3, 1) := by decide +kernel
theorem dX10_byAct_53 : decode cX10_byAct 53 = .ok (.if_icmp .ne 7, 3) := by decide +kernel
theorem dX10_byAct_56 : decode cX10_byAct 56 = .ok (.iconst 4, 1) := by decide +kernel
theorem dX10_byAct_57 : decode cX10_byAct 57 = .ok (.goto 5, 3) := by decide +kernel
theorem dX10_byAct_60 : decode cX10_byAct 60 = .ok (.iload 7, 2) := by decide +kernel
theorem dX10_byAct_62 : decode cX10_byAct 62 = .ok (.istore 10, 2) := by decide +kernel
theorem dX10_byAct_64 : decode cX10_byAct 64 = .ok (.aload_n 0, 1) := by decide +kernel
theorem dX10_byAct_65 : decode cX10_byAct 65 = .ok (.iload_n 1, 1) := by decide +kernel
theorem dX10_byAct_66 : decode cX10_byAct 66 = .ok (.iload_n 2, 1) := by decide +kernel
theorem dX10_byAct_67 : decode cX10_byAct 67 = .ok (.iload_n 3, 1) := by decide +kernel
theorem dX10_byAct_68 : decode cX10_byAct 68 = .ok (.iload 8, 2) := by decide +kernel
theorem dX10_byAct_70 : decode cX10_byAct 70 = .ok (.iload 7, 2) := by decide +kernel
theorem dX10_byAct_72 : decode cX10_byAct 72 = .ok (.iconst 2, 1) := by decide +kernel
theorem dX10_byAct_73 : decode cX10_byAct 73 = .ok (.if_icmp .ne 8, 3) := by decide +kernel
theorem dX10_byAct_76 : decode cX10_byAct 76 = .ok (.bipush 40, 2) := by decide +kernel
theorem dX10_byAct_78 : decode cX10_byAct 78 = .ok (.goto 4, 3) := by decide +kernel
theorem dX10_byAct_81 : decode cX10_byAct 81 = .ok (.iconst 0, 1) := by decide +kernel
theorem dX10_byAct_82 : decode cX10_byAct 82 = .ok (.iload 9, 2) := by decide +kernel
theorem dX10_byAct_84 : decode cX10_byAct 84 = .ok (.invokevirtual 275, 3) := by decide +kernel
theorem dX10_byAct_87 : decode cX10_byAct 87 = .ok (.ifCond .ne 24, 3) := by decide +kernel
theorem dX10_byAct_90 : decode cX10_byAct 90 = .ok (.iload 10, 2) := by decide +kernel
theorem dX10_byAct_92 : decode cX10_byAct 92 = .ok (.aload_n 0, 1) := by decide +kernel
theorem dX10_byAct_93 : decode cX10_byAct 93 = .ok (.iload_n 1, 1) := by decide +kernel
theorem dX10_byAct_94 : decode cX10_byAct 94 = .ok (.iload_n 2, 1) := by decide +kernel
theorem dX10_byAct_95 : decode cX10_byAct 95 = .ok (.iload_n 3, 1) := by decide +kernel
theorem dX10_byAct_96 : decode cX10_byAct 96 = .ok (.iconst 1, 1) := by decide +kernel
theorem dX10_byAct_97 : decode cX10_byAct 97 = .ok (.iadd, 1) := by decide +kernel
theorem dX10_byAct_98 : decode cX10_byAct 98 = .ok (.iload 4, 2) := by decide +kernel
theorem dX10_byAct_100 : decode cX10_byAct 100 = .ok (.iconst 1, 1) := by decide +kernel
theorem dX10_byAct_101 : decode cX10_byAct 101 = .ok (.isub, 1) := by decide +kernel
theorem dX10_byAct_102 : decode cX10_byAct 102 = .ok (.iload 8, 2) := by decide +kernel
theorem dX10_byAct_104 : decode cX10_byAct 104 = .ok (.iload 9, 2) := by decide +kernel
theorem dX10_byAct_106 : decode cX10_byAct 106 = .ok (.invokevirtual 317, 3) := by decide +kernel
theorem dX10_byAct_109 : decode cX10_byAct 109 = .ok (.iadd, 1) := by decide +kernel
theorem dX10_byAct_110 : decode cX10_byAct 110 = .ok (.ireturn, 1) := by decide +kernel
theorem dX10_byAct_111 : decode cX10_byAct 111 = .ok (.aload_n 0, 1) := by decide +kernel
theorem dX10_byAct_112 : decode cX10_byAct 112 = .ok (.iload_n 2, 1) := by decide +kernel
theorem dX10_byAct_113 : decode cX10_byAct 113 = .ok (.iload_n 3, 1) := by decide +kernel
theorem dX10_byAct_114 : decode cX10_byAct 114 = .ok (.invokevirtual 279, 3) := by decide +kernel
theorem dX10_byAct_117 : decode cX10_byAct 117 = .ok (.istore 11, 2) := by decide +kernel
theorem dX10_byAct_119 : decode cX10_byAct 119 = .ok (.iload 11, 2) := by decide +kernel
theorem dX10_byAct_121 : decode cX10_byAct 121 = .ok (.iconst (-1), 1) := by decide +kernel
theorem dX10_byAct_122 : decode cX10_byAct 122 = .ok (.if_icmp .ne 11, 3) := by decide +kernel
theorem dX10_byAct_125 : decode cX10_byAct 125 = .ok (.iload 10, 2) := by decide +kernel
theorem dX10_byAct_127 : decode cX10_byAct 127 = .ok (.bipush 50, 2) := by decide +kernel
theorem dX10_byAct_129 : decode cX10_byAct 129 = .ok (.iadd, 1) := by decide +kernel
theorem dX10_byAct_130 : decode cX10_byAct 130 = .ok (.goto 26, 3) := by decide +kernel
theorem dX10_byAct_133 : decode cX10_byAct 133 = .ok (.iload 10, 2) := by decide +kernel
theorem dX10_byAct_135 : decode cX10_byAct 135 = .ok (.iconst 5, 1) := by decide +kernel
theorem dX10_byAct_136 : decode cX10_byAct 136 = .ok (.iadd, 1) := by decide +kernel
theorem dX10_byAct_137 : decode cX10_byAct 137 = .ok (.aload_n 0, 1) := by decide +kernel
theorem dX10_byAct_138 : decode cX10_byAct 138 = .ok (.iload_n 1, 1) := by decide +kernel
theorem dX10_byAct_139 : decode cX10_byAct 139 = .ok (.iload 11, 2) := by decide +kernel
theorem dX10_byAct_141 : decode cX10_byAct 141 = .ok (.iload_n 3, 1) := by decide +kernel
theorem dX10_byAct_142 : decode cX10_byAct 142 = .ok (.iconst 1, 1) := by decide +kernel
theorem dX10_byAct_143 : decode cX10_byAct 143 = .ok (.iadd, 1) := by decide +kernel
theorem dX10_byAct_144 : decode cX10_byAct 144 = .ok (.iload 4, 2) := by decide +kernel
theorem dX10_byAct_146 : decode cX10_byAct 146 = .ok (.iconst 1, 1) := by decide +kernel
theorem dX10_byAct_147 : decode cX10_byAct 147 = .ok (.isub, 1) := by decide +kernel
theorem dX10_byAct_148 : decode cX10_byAct 148 = .ok (.iload 8, 2) := by decide +kernel
theorem dX10_byAct_150 : decode cX10_byAct 150 = .ok (.iload 9, 2) := by decide +kernel
theorem dX10_byAct_152 : decode cX10_byAct 152 = .ok (.invokevirtual 317, 3) := by decide +kernel
theorem dX10_byAct_155 : decode cX10_byAct 155 = .ok (.iadd, 1) := by decide +kernel
theorem dX10_byAct_156 : decode cX10_byAct 156 = .ok (.ireturn, 1) := by decide +kernel
theorem dX10_next__0 : decode cX10_next_ 0 = .ok (.aload_n 0, 1) := by decide +kernel
theorem dX10_next__1 : decode cX10_next_ 1 = .ok (.iload_n 1, 1) := by decide +kernel
theorem dX10_next__2 : decode cX10_next_ 2 = .ok (.invokevirtual 236, 3) := by decide +kernel
theorem dX10_next__5 : decode cX10_next_ 5 = .ok (.ifCond .ne 6, 3) := by decide +kernel
theorem dX10_next__8 : decode cX10_next_ 8 = .ok (.bipush (-5), 2) := by decide +kernel
theorem dX10_next__10 : decode cX10_next_ 10 = .ok (.ireturn, 1) := by decide +kernel
theorem dX10_next__11 : decode cX10_next_ 11 = .ok (.iload_n 2, 1) := by decide +kernel
theorem dX10_next__12 : decode cX10_next_ 12 = .ok (.iconst 1, 1) := by decide +kernel
theorem dX10_next__13 : decode cX10_next_ 13 = .ok (.iconst 4, 1) := by decide +kernel
theorem dX10_next__14 : decode cX10_next_ 14 = .ok (.invokestatic 132, 3) := by decide +kernel
theorem dX10_next__17 : decode cX10_next_ 17 = .ok (.ifCond .eq 12, 3) := by decide +kernel
theorem dX10_next__20 : decode cX10_next_ 20 = .ok (.iload_n 3, 1) := by decide +kernel
theorem dX10_next__21 : decode cX10_next_ 21 = .ok (.iconst 0, 1) := by decide +kernel
theorem dX10_next__22 : decode cX10_next_ 22 = .ok (.iconst 1, 1) := by decide +kernel
theorem dX10_next__23 : decode cX10_next_ 23 = .ok (.invokestatic 132, 3) := by decide +kernel
theorem dX10_next__26 : decode cX10_next_ 26 = .ok (.ifCond .ne 6, 3) := by decide +kernel
theorem dX10_next__29 : decode cX10_next_ 29 = .ok (.bipush (-7), 2) := by decide +kernel
theorem dX10_next__31 : decode cX10_next_ 31 = .ok (.ireturn, 1) := by decide +kernel
theorem dX10_next__32 : decode cX10_next_ 32 = .ok (.aload_n 0, 1) := by decide +kernel
theorem dX10_next__33 : decode cX10_next_ 33 = .ok (.getfield 43, 3) := by decide +kernel
theorem dX10_next__36 : decode cX10_next_ 36 = .ok (.iload_n 1, 1) := by decide +kernel
theorem dX10_next__37 : decode cX10_next_ 37 = .ok (.iaload, 1) := by decide +kernel
theorem dX10_next__38 : decode cX10_next_ 38 = .ok (.iconst (-1), 1) := by decide +kernel
theorem dX10_next__39 : decode cX10_next_ 39 = .ok (.if_icmp .ne 6, 3) := by decide +kernel
theorem dX10_next__42 : decode cX10_next_ 42 = .ok (.bipush (-3), 2) := by decide +kernel
theorem dX10_next__44 : decode cX10_next_ 44 = .ok (.ireturn, 1) := by decide +kernel
theorem dX10_next__45 : decode cX10_next_ 45 = .ok (.iconst 0, 1) := by decide +kernel
theorem dX10_next__46 : decode cX10_next_ 46 = .ok (.istore 4, 2) := by decide +kernel
theorem dX10_next__48 : decode cX10_next_ 48 = .ok (.aload_n 0, 1) := by decide +kernel
theorem dX10_next__49 : decode cX10_next_ 49 = .ok (.iload_n 1, 1) := by decide +kernel
theorem dX10_next__50 : decode cX10_next_ 50 = .ok (.aload_n 0, 1) := by decide +kernel
theorem dX10_next__51 : decode cX10_next_ 51 = .ok (.getfield 43, 3) := by decide +kernel
theorem dX10_next__54 : decode cX10_next_ 54 = .ok (.iload_n 1, 1) := by decide +kernel
theorem dX10_next__55 : decode cX10_next_ 55 = .ok (.iaload, 1) := by decide +kernel
theorem dX10_next__56 : decode cX10_next_ 56 = .ok (.aload_n 0, 1) := by decide +kernel
theorem dX10_next__57 : decode cX10_next_ 57 = .ok (.getfield 139, 3) := by decide +kernel
theorem dX10_next__60 : decode cX10_next_ 60 = .ok (.iload_n 2, 1) := by decide +kernel
theorem dX10_next__61 : decode cX10_next_ 61 = .ok (.aload_n 0, 1) := by decide +kernel
theorem dX10_next__62 : decode cX10_next_ 62 = .ok (.getfield 46, 3) := by decide +kernel
theorem dX10_next__65 : decode cX10_next_ 65 = .ok (.iload_n 1, 1) := by decide +kernel
theorem dX10_next__66 : decode cX10_next_ 66 = .ok (.iaload, 1) := by decide +kernel
theorem dX10_next__67 : decode cX10_next_ 67 = .ok (.iconst 0, 1) := by decide +kernel
theorem dX10_next__68 : decode cX10_next_ 68 = .ok (.iconst 0, 1) := by decide +kernel
theorem dX10_next__69 : decode cX10_next_ 69 = .ok (.invokevirtual 313, 3) := by decide +kernel
theorem dX10_next__72 : decode cX10_next_ 72 = .ok (.istore 5, 2) := by decide +kernel
theorem dX10_next__74 : decode cX10_next_ 74 = .ok (.iconst 1, 1) := by decide +kernel
theorem dX10_next__75 : decode cX10_next_ 75 = .ok (.istore 6, 2) := by decide +kernel
theorem dX10_next__77 : decode cX10_next_ 77 = .ok (.iload 6, 2) := by decide +kernel
theorem dX10_next__79 : decode cX10_next_ 79 = .ok (.iconst 4, 1) := by decide +kernel
theorem dX10_next__80 : decode cX10_next_ 80 = .ok (.if_icmp .gt 68, 3) := by decide +kernel
theorem dX10_next__83 : decode cX10_next_ 83 = .ok (.aload_n 0, 1) := by decide +kernel
theorem dX10_next__84 : decode cX10_next_ 84 = .ok (.iload_n 1, 1) := by decide +kernel
theorem dX10_next__85 : decode cX10_next_ 85 = .ok (.aload_n 0, 1) := by decide +kernel
theorem dX10_next__86 : decode cX10_next_ 86 = .ok (.getfield 43, 3) := by decide +kernel
theorem dX10_next__89 : decode cX10_next_ 89 = .ok (.iload_n 1, 1) := by decide +kernel
theorem dX10_next__90 : decode cX10_next_ 90 = .ok (.iaload, 1) := by decide +kernel
theorem dX10_next__91 : decode cX10_next_ 91 = .ok (.aload_n 0, 1) := by decide +kernel
theorem dX10_next__92 : decode cX10_next_ 92 = .ok (.getfield 139, 3) := by decide +kernel
theorem dX10_next__95 : decode cX10_next_ 95 = .ok (.iload_n 2, 1) := by decide +kernel
theorem dX10_next__96 : decode cX10_next_ 96 = .ok (.aload_n 0, 1) := by decide +kernel
theorem dX10_next__97 : decode cX10_next_ 97 = .ok (.getfield 46, 3) := by decide +kernel
theorem dX10_next__100 : decode cX10_next_ 100 = .ok (.iload_n 1, 1) := by decide +kernel
theorem dX10_next__101 : decode cX10_next_ 101 = .ok (.iaload, 1) := by decide +kernel
theorem dX10_next__102 : decode cX10_next_ 102 = .ok (.iconst 0, 1) := by decide +kernel
theorem dX10_next__103 : decode cX10_next_ 103 = .ok (.iload 6, 2) := by decide +kernel
theorem dX10_next__105 : decode cX10_next_ 105 = .ok (.invokevirtual 313, 3) := by decide +kernel
theorem dX10_next__108 : decode cX10_next_ 108 = .ok (.istore 7, 2) := by decide +kernel
theorem dX10_next__110 : decode cX10_next_ 110 = .ok (.iload 7, 2) := by decide +kernel
theorem dX10_next__112 : decode cX10_next_ 112 = .ok (.iload 5, 2) := by decide +kernel
theorem dX10_next__114 : decode cX10_next_ 114 = .ok (.if_icmp .ge 8, 3) := by decide +kernel
theorem dX10_next__117 : decode cX10_next_ 117 = .ok (.iload 6, 2) := by decide +kernel
theorem dX10_next__119 : decode cX10_next_ 119 = .ok (.goto 5, 3) := by decide +kernel
theorem dX10_next__122 : decode cX10_next_ 122 = .ok (.iload 4, 2) := by decide +kernel
theorem dX10_next__124 : decode cX10_next_ 124 = .ok (.istore 4, 2) := by decide +kernel
theorem dX10_next__126 : decode cX10_next_ 126 = .ok (.iload 7, 2) := by decide +kernel
theorem dX10_next__128 : decode cX10_next_ 128 = .ok (.iload 5, 2) := by decide +kernel
theorem dX10_next__130 : decode cX10_next_ 130 = .ok (.if_icmp .ge 8, 3) := by decide +kernel
theorem dX10_next__133 : decode cX10_next_ 133 = .ok (.iload 7, 2) := by decide +kernel
theorem dX10_next__135 : decode cX10_next_ 135 = .ok (.goto 5, 3) := by decide +kernel
theorem dX10_next__138 : decode cX10_next_ 138 = .ok (.iload 5, 2) := by decide +kernel
theorem dX10_next__140 : decode cX10_next_ 140 = .ok (.istore 5, 2) := by decide +kernel
theorem dX10_next__142 : decode cX10_next_ 142 = .ok (.iinc 6 1, 3) := by decide +kernel
theorem dX10_next__145 : decode cX10_next_ 145 = .ok (.goto (-68), 3) := by decide +kernel
theorem dX10_next__148 : decode cX10_next_ 148 = .ok (.iload_n 3, 1) := by decide +kernel
theorem dX10_next__149 : decode cX10_next_ 149 = .ok (.ifCond .ne 8, 3) := by decide +kernel
theorem dX10_next__152 : decode cX10_next_ 152 = .ok (.iload 4, 2) := by decide +kernel
theorem dX10_next__154 : decode cX10_next_ 154 = .ok (.goto 5, 3) := by decide +kernel
theorem dX10_next__157 : decode cX10_next_ 157 = .ok (.iload 5, 2) := by decide +kernel
theorem dX10_next__159 : decode cX10_next_ 159 = .ok (.ireturn, 1) := by decide +kernel
theorem dX10_bearsOf_0 : decode cX10_bearsOf 0 = .ok (.iload_n 3, 1) := by decide +kernel
theorem dX10_bearsOf_1 : decode cX10_bearsOf 1 = .ok (.ifCond .ne 8, 3) := by decide +kernel
theorem dX10_bearsOf_4 : decode cX10_bearsOf 4 = .ok (.bipush 50, 2) := by decide +kernel
theorem dX10_bearsOf_6 : decode cX10_bearsOf 6 = .ok (.goto 26, 3) := by decide +kernel
theorem dX10_bearsOf_9 : decode cX10_bearsOf 9 = .ok (.iload_n 3, 1) := by decide +kernel
theorem dX10_bearsOf_10 : decode cX10_bearsOf 10 = .ok (.iconst 1, 1) := by decide +kernel
theorem dX10_bearsOf_11 : decode cX10_bearsOf 11 = .ok (.if_icmp .ne 8, 3) := by decide +kernel
theorem dX10_bearsOf_14 : decode cX10_bearsOf 14 = .ok (.bipush 54, 2) := by decide +kernel
theorem dX10_bearsOf_16 : decode cX10_bearsOf 16 = .ok (.goto 16, 3) := by decide +kernel
theorem dX10_bearsOf_19 : decode cX10_bearsOf 19 = .ok (.iload_n 3, 1) := by decide +kernel
theorem dX10_bearsOf_20 : decode cX10_bearsOf 20 = .ok (.iconst 2, 1) := by decide +kernel
theorem dX10_bearsOf_21 : decode cX10_bearsOf 21 = .ok (.if_icmp .ne 8, 3) := by decide +kernel
theorem dX10_bearsOf_24 : decode cX10_bearsOf 24 = .ok (.bipush 71, 2) := by decide +kernel
theorem dX10_bearsOf_26 : decode cX10_bearsOf 26 = .ok (.goto 6, 3) := by decide +kernel
theorem dX10_bearsOf_29 : decode cX10_bearsOf 29 = .ok (.sipush 131, 3) := by decide +kernel
theorem dX10_bearsOf_32 : decode cX10_bearsOf 32 = .ok (.istore 4, 2) := by decide +kernel
theorem dX10_bearsOf_34 : decode cX10_bearsOf 34 = .ok (.aload_n 0, 1) := by decide +kernel
theorem dX10_bearsOf_35 : decode cX10_bearsOf 35 = .ok (.iload_n 1, 1) := by decide +kernel
theorem dX10_bearsOf_36 : decode cX10_bearsOf 36 = .ok (.aload_n 0, 1) := by decide +kernel
theorem dX10_bearsOf_37 : decode cX10_bearsOf 37 = .ok (.getfield 43, 3) := by decide +kernel
theorem dX10_bearsOf_40 : decode cX10_bearsOf 40 = .ok (.iload_n 1, 1) := by decide +kernel
theorem dX10_bearsOf_41 : decode cX10_bearsOf 41 = .ok (.iaload, 1) := by decide +kernel
theorem dX10_bearsOf_42 : decode cX10_bearsOf 42 = .ok (.iload_n 2, 1) := by decide +kernel
theorem dX10_bearsOf_43 : decode cX10_bearsOf 43 = .ok (.aload_n 0, 1) := by decide +kernel
theorem dX10_bearsOf_44 : decode cX10_bearsOf 44 = .ok (.getfield 46, 3) := by decide +kernel
theorem dX10_bearsOf_47 : decode cX10_bearsOf 47 = .ok (.iload_n 1, 1) := by decide +kernel
theorem dX10_bearsOf_48 : decode cX10_bearsOf 48 = .ok (.iaload, 1) := by decide +kernel
theorem dX10_bearsOf_49 : decode cX10_bearsOf 49 = .ok (.invokevirtual 259, 3) := by decide +kernel
theorem dX10_bearsOf_52 : decode cX10_bearsOf 52 = .ok (.iload 4, 2) := by decide +kernel
theorem dX10_bearsOf_54 : decode cX10_bearsOf 54 = .ok (.imul, 1) := by decide +kernel
theorem dX10_bearsOf_55 : decode cX10_bearsOf 55 = .ok (.bipush 100, 2) := by decide +kernel
theorem dX10_bearsOf_57 : decode cX10_bearsOf 57 = .ok (.idiv, 1) := by decide +kernel
theorem dX10_bearsOf_58 : decode cX10_bearsOf 58 = .ok (.ireturn, 1) := by decide +kernel
theorem dX10_bears_0 : decode cX10_bears 0 = .ok (.aload_n 0, 1) := by decide +kernel
theorem dX10_bears_1 : decode cX10_bears 1 = .ok (.iload_n 1, 1) := by decide +kernel
theorem dX10_bears_2 : decode cX10_bears 2 = .ok (.iload_n 2, 1) := by decide +kernel
theorem dX10_bears_3 : decode cX10_bears 3 = .ok (.iload_n 3, 1) := by decide +kernel
theorem dX10_bears_4 : decode cX10_bears 4 = .ok (.invokevirtual 321, 3) := by decide +kernel
theorem dX10_bears_7 : decode cX10_bears 7 = .ok (.aload_n 0, 1) := by decide +kernel
theorem dX10_bears_8 : decode cX10_bears 8 = .ok (.iload_n 1, 1) := by decide +kernel
theorem dX10_bears_9 : decode cX10_bears 9 = .ok (.aload_n 0, 1) := by decide +kernel
theorem dX10_bears_10 : decode cX10_bears 10 = .ok (.getfield 43, 3) := by decide +kernel
theorem dX10_bears_13 : decode cX10_bears 13 = .ok (.iload_n 1, 1) := by decide +kernel
theorem dX10_bears_14 : decode cX10_bears 14 = .ok (.iaload, 1) := by decide +kernel
theorem dX10_bears_15 : decode cX10_bears 15 = .ok (.iload_n 2, 1) := by decide +kernel
theorem dX10_bears_16 : decode cX10_bears 16 = .ok (.aload_n 0, 1) := by decide +kernel
theorem dX10_bears_17 : decode cX10_bears 17 = .ok (.getfield 46, 3) := by decide +kernel
theorem dX10_bears_20 : decode cX10_bears 20 = .ok (.iload_n 1, 1) := by decide +kernel
theorem dX10_bears_21 : decode cX10_bears 21 = .ok (.iaload, 1) := by decide +kernel
theorem dX10_bears_22 : decode cX10_bears 22 = .ok (.invokevirtual 263, 3) := by decide +kernel
theorem dX10_bears_25 : decode cX10_bears 25 = .ok (.if_icmp .gt 7, 3) := by decide +kernel
theorem dX10_bears_28 : decode cX10_bears 28 = .ok (.iconst 1, 1) := by decide +kernel
theorem dX10_bears_29 : decode cX10_bears 29 = .ok (.goto 4, 3) := by decide +kernel
theorem dX10_bears_32 : decode cX10_bears 32 = .ok (.iconst 0, 1) := by decide +kernel
theorem dX10_bears_33 : decode cX10_bears 33 = .ok (.ireturn, 1) := by decide +kernel
theorem dX10_two__0 : decode cX10_two_ 0 = .ok (.aload_n 0, 1) := by decide +kernel
theorem dX10_two__1 : decode cX10_two_ 1 = .ok (.iload_n 1, 1) := by decide +kernel
theorem dX10_two__2 : decode cX10_two_ 2 = .ok (.invokevirtual 236, 3) := by decide +kernel
theorem dX10_two__5 : decode cX10_two_ 5 = .ok (.ifCond .ne 6, 3) := by decide +kernel
theorem dX10_two__8 : decode cX10_two_ 8 = .ok (.bipush (-5), 2) := by decide +kernel
theorem dX10_two__10 : decode cX10_two_ 10 = .ok (.ireturn, 1) := by decide +kernel
theorem dX10_two__11 : decode cX10_two_ 11 = .ok (.iload_n 2, 1) := by decide +kernel
theorem dX10_two__12 : decode cX10_two_ 12 = .ok (.invokestatic 154, 3) := by decide +kernel
theorem dX10_two__15 : decode cX10_two_ 15 = .ok (.ifCond .eq 22, 3) := by decide +kernel
theorem dX10_two__18 : decode cX10_two_ 18 = .ok (.iload_n 3, 1) := by decide +kernel
theorem dX10_two__19 : decode cX10_two_ 19 = .ok (.iconst 0, 1) := by decide +kernel
theorem dX10_two__20 : decode cX10_two_ 20 = .ok (.iconst 3, 1) := by decide +kernel
theorem dX10_two__21 : decode cX10_two_ 21 = .ok (.invokestatic 132, 3) := by decide +kernel
theorem dX10_two__24 : decode cX10_two_ 24 = .ok (.ifCond .eq 13, 3) := by decide +kernel
theorem dX10_two__27 : decode cX10_two_ 27 = .ok (.iload 4, 2) := by decide +kernel
theorem dX10_two__29 : decode cX10_two_ 29 = .ok (.iconst 0, 1) := by decide +kernel
theorem dX10_two__30 : decode cX10_two_ 30 = .ok (.iconst 1, 1) := by decide +kernel
theorem dX10_two__31 : decode cX10_two_ 31 = .ok (.invokestatic 132, 3) := by decide +kernel
theorem dX10_two__34 : decode cX10_two_ 34 = .ok (.ifCond .ne 6, 3) := by decide +kernel
theorem dX10_two__37 : decode cX10_two_ 37 = .ok (.bipush (-7), 2) := by decide +kernel
theorem dX10_two__39 : decode cX10_two_ 39 = .ok (.ireturn, 1) := by decide +kernel
theorem dX10_two__40 : decode cX10_two_ 40 = .ok (.aload_n 0, 1) := by decide +kernel
theorem dX10_two__41 : decode cX10_two_ 41 = .ok (.getfield 43, 3) := by decide +kernel
theorem dX10_two__44 : decode cX10_two_ 44 = .ok (.iload_n 1, 1) := by decide +kernel
theorem dX10_two__45 : decode cX10_two_ 45 = .ok (.iaload, 1) := by decide +kernel
theorem dX10_two__46 : decode cX10_two_ 46 = .ok (.iconst (-1), 1) := by decide +kernel
theorem dX10_two__47 : decode cX10_two_ 47 = .ok (.if_icmp .ne 6, 3) := by decide +kernel
theorem dX10_two__50 : decode cX10_two_ 50 = .ok (.bipush (-3), 2) := by decide +kernel
theorem dX10_two__52 : decode cX10_two_ 52 = .ok (.ireturn, 1) := by decide +kernel
theorem dX10_two__53 : decode cX10_two_ 53 = .ok (.iload 4, 2) := by decide +kernel
theorem dX10_two__55 : decode cX10_two_ 55 = .ok (.ifCond .ne 13, 3) := by decide +kernel
theorem dX10_two__58 : decode cX10_two_ 58 = .ok (.aload_n 0, 1) := by decide +kernel
theorem dX10_two__59 : decode cX10_two_ 59 = .ok (.iload_n 1, 1) := by decide +kernel
theorem dX10_two__60 : decode cX10_two_ 60 = .ok (.iload_n 2, 1) := by decide +kernel
theorem dX10_two__61 : decode cX10_two_ 61 = .ok (.iload_n 3, 1) := by decide +kernel
theorem dX10_two__62 : decode cX10_two_ 62 = .ok (.invokevirtual 321, 3) := by decide +kernel
theorem dX10_two__65 : decode cX10_two_ 65 = .ok (.goto 18, 3) := by decide +kernel
theorem dX10_two__68 : decode cX10_two_ 68 = .ok (.aload_n 0, 1) := by decide +kernel
theorem dX10_two__69 : decode cX10_two_ 69 = .ok (.iload_n 1, 1) := by decide +kernel
theorem dX10_two__70 : decode cX10_two_ 70 = .ok (.iload_n 2, 1) := by decide +kernel
theorem dX10_two__71 : decode cX10_two_ 71 = .ok (.iload_n 3, 1) := by decide +kernel
theorem dX10_two__72 : decode cX10_two_ 72 = .ok (.invokevirtual 324, 3) := by decide +kernel
theorem dX10_two__75 : decode cX10_two_ 75 = .ok (.ifCond .eq 7, 3) := by decide +kernel
theorem dX10_two__78 : decode cX10_two_ 78 = .ok (.iconst 1, 1) := by decide +kernel
theorem dX10_two__79 : decode cX10_two_ 79 = .ok (.goto 4, 3) := by decide +kernel
theorem dX10_two__82 : decode cX10_two_ 82 = .ok (.iconst 0, 1) := by decide +kernel
theorem dX10_two__83 : decode cX10_two_ 83 = .ok (.ireturn, 1) := by decide +kernel
theorem dX10_angle_0 : decode cX10_angle 0 = .ok (.aload_n 0, 1) := by decide +kernel
theorem dX10_angle_1 : decode cX10_angle 1 = .ok (.iload_n 1, 1) := by decide +kernel
theorem dX10_angle_2 : decode cX10_angle 2 = .ok (.invokevirtual 236, 3) := by decide +kernel
theorem dX10_angle_5 : decode cX10_angle 5 = .ok (.ifCond .ne 6, 3) := by decide +kernel
theorem dX10_angle_8 : decode cX10_angle 8 = .ok (.bipush (-5), 2) := by decide +kernel
theorem dX10_angle_10 : decode cX10_angle 10 = .ok (.ireturn, 1) := by decide +kernel
theorem dX10_angle_11 : decode cX10_angle 11 = .ok (.aload_n 0, 1) := by decide +kernel
theorem dX10_angle_12 : decode cX10_angle 12 = .ok (.iload_n 2, 1) := by decide +kernel
theorem dX10_angle_13 : decode cX10_angle 13 = .ok (.invokevirtual 291, 3) := by decide +kernel
theorem dX10_angle_16 : decode cX10_angle 16 = .ok (.ifCond .ne 6, 3) := by decide +kernel
theorem dX10_angle_19 : decode cX10_angle 19 = .ok (.bipush (-7), 2) := by decide +kernel
theorem dX10_angle_21 : decode cX10_angle 21 = .ok (.ireturn, 1) := by decide +kernel
theorem dX10_angle_22 : decode cX10_angle 22 = .ok (.aload_n 0, 1) := by decide +kernel
theorem dX10_angle_23 : decode cX10_angle 23 = .ok (.getfield 43, 3) := by decide +kernel
theorem dX10_angle_26 : decode cX10_angle 26 = .ok (.iload_n 1, 1) := by decide +kernel
theorem dX10_angle_27 : decode cX10_angle 27 = .ok (.iaload, 1) := by decide +kernel
theorem dX10_angle_28 : decode cX10_angle 28 = .ok (.iconst (-1), 1) := by decide +kernel
theorem dX10_angle_29 : decode cX10_angle 29 = .ok (.if_icmp .ne 6, 3) := by decide +kernel
theorem dX10_angle_32 : decode cX10_angle 32 = .ok (.bipush (-3), 2) := by decide +kernel
theorem dX10_angle_34 : decode cX10_angle 34 = .ok (.ireturn, 1) := by decide +kernel
theorem dX10_angle_35 : decode cX10_angle 35 = .ok (.iconst (-1), 1) := by decide +kernel
theorem dX10_angle_36 : decode cX10_angle 36 = .ok (.istore_n 3, 1) := by decide +kernel
theorem dX10_angle_37 : decode cX10_angle 37 = .ok (.iconst 0, 1) := by decide +kernel
theorem dX10_angle_38 : decode cX10_angle 38 = .ok (.istore 4, 2) := by decide +kernel
theorem dX10_angle_40 : decode cX10_angle 40 = .ok (.iload 4, 2) := by decide +kernel
theorem dX10_angle_42 : decode cX10_angle 42 = .ok (.iconst 3, 1) := by decide +kernel
theorem dX10_angle_43 : decode cX10_angle 43 = .ok (.if_icmp .gt 71, 3) := by decide +kernel
theorem dX10_angle_46 : decode cX10_angle 46 = .ok (.iconst 1, 1) := by decide +kernel
theorem dX10_angle_47 : decode cX10_angle 47 = .ok (.istore 5, 2) := by decide +kernel
theorem dX10_angle_49 : decode cX10_angle 49 = .ok (.aload_n 0, 1) := by decide +kernel
theorem dX10_angle_50 : decode cX10_angle 50 = .ok (.getfield 139, 3) := by decide +kernel
theorem dX10_angle_53 : decode cX10_angle 53 = .ok (.istore 6, 2) := by decide +kernel
theorem dX10_angle_55 : decode cX10_angle 55 = .ok (.iload 6, 2) := by decide +kernel
theorem dX10_angle_57 : decode cX10_angle 57 = .ok (.aload_n 0, 1) := by decide +kernel
theorem dX10_angle_58 : decode cX10_angle 58 = .ok (.getfield 139, 3) := by decide +kernel
theorem dX10_angle_61 : decode cX10_angle 61 = .ok (.iload_n 2, 1) := by decide +kernel
theorem dX10_angle_62 : decode cX10_angle 62 = .ok (.iadd, 1) := by decide +kernel
theorem dX10_angle_63 : decode cX10_angle 63 = .ok (.if_icmp .ge 33, 3) := by decide +kernel
theorem dX10_angle_66 : decode cX10_angle 66 = .ok (.iload 5, 2) := by decide +kernel
theorem dX10_angle_68 : decode cX10_angle 68 = .ok (.ifCond .eq 19, 3) := by decide +kernel
theorem dX10_angle_71 : decode cX10_angle 71 = .ok (.aload_n 0, 1) := by decide +kernel
theorem dX10_angle_72 : decode cX10_angle 72 = .ok (.iload_n 1, 1) := by decide +kernel
theorem dX10_angle_73 : decode cX10_angle 73 = .ok (.iload 6, 2) := by decide +kernel
theorem dX10_angle_75 : decode cX10_angle 75 = .ok (.iload 4, 2) := by decide +kernel
theorem dX10_angle_77 : decode cX10_angle 77 = .ok (.invokevirtual 324, 3) := by decide +kernel
theorem dX10_angle_80 : decode cX10_angle 80 = .ok (.ifCond .eq 7, 3) := by decide +kernel
theorem dX10_angle_83 : decode cX10_angle 83 = .ok (.iconst 1, 1) := by decide +kernel
theorem dX10_angle_84 : decode cX10_angle 84 = .ok (.goto 4, 3) := by decide +kernel
theorem dX10_angle_87 : decode cX10_angle 87 = .ok (.iconst 0, 1) := by decide +kernel
theorem dX10_angle_88 : decode cX10_angle 88 = .ok (.istore 5, 2) := by decide +kernel
theorem dX10_angle_90 : decode cX10_angle 90 = .ok (.iinc 6 1, 3) := by decide +kernel
theorem dX10_angle_93 : decode cX10_angle 93 = .ok (.goto (-38), 3) := by decide +kernel
theorem dX10_angle_96 : decode cX10_angle 96 = .ok (.iload 5, 2) := by decide +kernel
theorem dX10_angle_98 : decode cX10_angle 98 = .ok (.ifCond .eq 8, 3) := by decide +kernel
theorem dX10_angle_101 : decode cX10_angle 101 = .ok (.iload 4, 2) := by decide +kernel
theorem dX10_angle_103 : decode cX10_angle 103 = .ok (.goto 4, 3) := by decide +kernel
theorem dX10_angle_106 : decode cX10_angle 106 = .ok (.iload_n 3, 1) := by decide +kernel
theorem dX10_angle_107 : decode cX10_angle 107 = .ok (.istore_n 3, 1) := by decide +kernel
theorem dX10_angle_108 : decode cX10_angle 108 = .ok (.iinc 4 1, 3) := by decide +kernel
theorem dX10_angle_111 : decode cX10_angle 111 = .ok (.goto (-71), 3) := by decide +kernel
theorem dX10_angle_114 : decode cX10_angle 114 = .ok (.iload_n 3, 1) := by decide +kernel
theorem dX10_angle_115 : decode cX10_angle 115 = .ok (.ireturn, 1) := by decide +kernel
theorem dX10_turns_0 : decode cX10_turns 0 = .ok (.aload_n 0, 1) := by decide +kernel
theorem dX10_turns_1 : decode cX10_turns 1 = .ok (.iload_n 1, 1) := by decide +kernel
theorem dX10_turns_2 : decode cX10_turns 2 = .ok (.invokevirtual 236, 3) := by decide +kernel
theorem dX10_turns_5 : decode cX10_turns 5 = .ok (.ifCond .eq 11, 3) := by decide +kernel
theorem dX10_turns_8 : decode cX10_turns 8 = .ok (.aload_n 0, 1) := by decide +kernel
theorem dX10_turns_9 : decode cX10_turns 9 = .ok (.iload_n 2, 1) := by decide +kernel
theorem dX10_turns_10 : decode cX10_turns 10 = .ok (.invokevirtual 291, 3) := by decide +kernel
theorem dX10_turns_13 : decode cX10_turns 13 = .ok (.ifCond .ne 7, 3) := by decide +kernel
theorem dX10_turns_16 : decode cX10_turns 16 = .ok (.ldc2_w 327, 3) := by decide +kernel
theorem dX10_turns_19 : decode cX10_turns 19 = .ok (.lreturn, 1) := by decide +kernel
theorem dX10_turns_20 : decode cX10_turns 20 = .ok (.aload_n 0, 1) := by decide +kernel
theorem dX10_turns_21 : decode cX10_turns 21 = .ok (.getfield 43, 3) := by decide +kernel
theorem dX10_turns_24 : decode cX10_turns 24 = .ok (.iload_n 1, 1) := by decide +kernel
theorem dX10_turns_25 : decode cX10_turns 25 = .ok (.iaload, 1) := by decide +kernel
theorem dX10_turns_26 : decode cX10_turns 26 = .ok (.iconst (-1), 1) := by decide +kernel
theorem dX10_turns_27 : decode cX10_turns 27 = .ok (.if_icmp .ne 7, 3) := by decide +kernel
theorem dX10_turns_30 : decode cX10_turns 30 = .ok (.ldc2_w 329, 3) := by decide +kernel
theorem dX10_turns_33 : decode cX10_turns 33 = .ok (.lreturn, 1) := by decide +kernel
theorem dX10_turns_34 : decode cX10_turns 34 = .ok (.ldc2_w 331, 3) := by decide +kernel
theorem dX10_turns_37 : decode cX10_turns 37 = .ok (.lstore_n 3, 1) := by decide +kernel
theorem dX10_turns_38 : decode cX10_turns 38 = .ok (.aload_n 0, 1) := by decide +kernel
theorem dX10_turns_39 : decode cX10_turns 39 = .ok (.getfield 139, 3) := by decide +kernel
theorem dX10_turns_42 : decode cX10_turns 42 = .ok (.istore 5, 2) := by decide +kernel
theorem dX10_turns_44 : decode cX10_turns 44 = .ok (.iload 5, 2) := by decide +kernel
theorem dX10_turns_46 : decode cX10_turns 46 = .ok (.aload_n 0, 1) := by decide +kernel
theorem dX10_turns_47 : decode cX10_turns 47 = .ok (.getfield 139, 3) := by decide +kernel
theorem dX10_turns_50 : decode cX10_turns 50 = .ok (.iload_n 2, 1) := by decide +kernel
theorem dX10_turns_51 : decode cX10_turns 51 = .ok (.iadd, 1) := by decide +kernel
theorem dX10_turns_52 : decode cX10_turns 52 = .ok (.if_icmp .ge 54, 3) := by decide +kernel
theorem dX10_turns_55 : decode cX10_turns 55 = .ok (.aload_n 0, 1) := by decide +kernel
theorem dX10_turns_56 : decode cX10_turns 56 = .ok (.iload 5, 2) := by decide +kernel
theorem dX10_turns_58 : decode cX10_turns 58 = .ok (.invokevirtual 269, 3) := by decide +kernel
theorem dX10_turns_61 : decode cX10_turns 61 = .ok (.iconst 3, 1) := by decide +kernel
theorem dX10_turns_62 : decode cX10_turns 62 = .ok (.if_icmp .lt 38, 3) := by decide +kernel
theorem dX10_turns_65 : decode cX10_turns 65 = .ok (.aload_n 0, 1) := by decide +kernel
theorem dX10_turns_66 : decode cX10_turns 66 = .ok (.iload_n 1, 1) := by decide +kernel
theorem dX10_turns_67 : decode cX10_turns 67 = .ok (.aload_n 0, 1) := by decide +kernel
theorem dX10_turns_68 : decode cX10_turns 68 = .ok (.getfield 43, 3) := by decide +kernel
theorem dX10_turns_71 : decode cX10_turns 71 = .ok (.iload_n 1, 1) := by decide +kernel
theorem dX10_turns_72 : decode cX10_turns 72 = .ok (.iaload, 1) := by decide +kernel
theorem dX10_turns_73 : decode cX10_turns 73 = .ok (.iload 5, 2) := by decide +kernel
theorem dX10_turns_75 : decode cX10_turns 75 = .ok (.aload_n 0, 1) := by decide +kernel
theorem dX10_turns_76 : decode cX10_turns 76 = .ok (.getfield 46, 3) := by decide +kernel
theorem dX10_turns_79 : decode cX10_turns 79 = .ok (.iload_n 1, 1) := by decide +kernel
theorem dX10_turns_80 : decode cX10_turns 80 = .ok (.iaload, 1) := by decide +kernel
theorem dX10_turns_81 : decode cX10_turns 81 = .ok (.invokevirtual 249, 3) := by decide +kernel
theorem dX10_turns_84 : decode cX10_turns 84 = .ok (.lload_n 3, 1) := by decide +kernel
theorem dX10_turns_85 : decode cX10_turns 85 = .ok (.bipush 100, 2) := by decide +kernel
theorem dX10_turns_87 : decode cX10_turns 87 = .ok (.aload_n 0, 1) := by decide +kernel
theorem dX10_turns_88 : decode cX10_turns 88 = .ok (.iconst 2, 1) := by decide +kernel
theorem dX10_turns_89 : decode cX10_turns 89 = .ok (.invokevirtual 233, 3) := by decide +kernel
theorem dX10_turns_92 : decode cX10_turns 92 = .ok (.isub, 1) := by decide +kernel
theorem dX10_turns_93 : decode cX10_turns 93 = .ok (.i2l, 1) := by decide +kernel
theorem dX10_turns_94 : decode cX10_turns 94 = .ok (.lmul, 1) := by decide +kernel
theorem dX10_turns_95 : decode cX10_turns 95 = .ok (.ldc2_w 333, 3) := by decide +kernel
theorem dX10_turns_98 : decode cX10_turns 98 = .ok (.ldiv, 1) := by decide +kernel
theorem dX10_turns_99 : decode cX10_turns 99 = .ok (.lstore_n 3, 1) := by decide +kernel
theorem dX10_turns_100 : decode cX10_turns 100 = .ok (.iinc 5 1, 3) := by decide +kernel
theorem dX10_turns_103 : decode cX10_turns 103 = .ok (.goto (-59), 3) := by decide +kernel
theorem dX10_turns_106 : decode cX10_turns 106 = .ok (.lload_n 3, 1) := by decide +kernel
theorem dX10_turns_107 : decode cX10_turns 107 = .ok (.lreturn, 1) := by decide +kernel
theorem dX10_isTrial_0 : decode cX10_isTrial 0 = .ok (.iload_n 0, 1) := by decide +kernel
theorem dX10_isTrial_1 : decode cX10_isTrial 1 = .ok (.iconst 0, 1) := by decide +kernel
theorem dX10_isTrial_2 : decode cX10_isTrial 2 = .ok (.iconst 4, 1) := by decide +kernel
theorem dX10_isTrial_3 : decode cX10_isTrial 3 = .ok (.invokestatic 132, 3) := by decide +kernel
theorem dX10_isTrial_6 : decode cX10_isTrial 6 = .ok (.ifCond .eq 16, 3) := by decide +kernel
theorem dX10_isTrial_9 : decode cX10_isTrial 9 = .ok (.iload_n 1, 1) := by decide +kernel
theorem dX10_isTrial_10 : decode cX10_isTrial 10 = .ok (.iconst 0, 1) := by decide +kernel
theorem dX10_isTrial_11 : decode cX10_isTrial 11 = .ok (.iconst 3, 1) := by decide +kernel
theorem dX10_isTrial_12 : decode cX10_isTrial 12 = .ok (.invokestatic 132, 3) := by decide +kernel
theorem dX10_isTrial_15 : decode cX10_isTrial 15 = .ok (.ifCond .eq 7, 3) := by decide +kernel
theorem dX10_isTrial_18 : decode cX10_isTrial 18 = .ok (.iconst 1, 1) := by decide +kernel
theorem dX10_isTrial_19 : decode cX10_isTrial 19 = .ok (.goto 4, 3) := by decide +kernel
theorem dX10_isTrial_22 : decode cX10_isTrial 22 = .ok (.iconst 0, 1) := by decide +kernel
theorem dX10_isTrial_23 : decode cX10_isTrial 23 = .ok (.ireturn, 1) := by decide +kernel
theorem dX10_trial_0 : decode cX10_trial 0 = .ok (.iload_n 1, 1) := by decide +kernel
theorem dX10_trial_1 : decode cX10_trial 1 = .ok (.iload_n 2, 1) := by decide +kernel
theorem dX10_trial_2 : decode cX10_trial 2 = .ok (.invokestatic 335, 3) := by decide +kernel
theorem dX10_trial_5 : decode cX10_trial 5 = .ok (.ifCond .ne 5, 3) := by decide +kernel
theorem dX10_trial_8 : decode cX10_trial 8 = .ok (.iconst (-1), 1) := by decide +kernel
theorem dX10_trial_9 : decode cX10_trial 9 = .ok (.ireturn, 1) := by decide +kernel
theorem dX10_trial_10 : decode cX10_trial 10 = .ok (.iload 4, 2) := by decide +kernel
theorem dX10_trial_12 : decode cX10_trial 12 = .ok (.iconst 1, 1) := by decide +kernel
theorem dX10_trial_13 : decode cX10_trial 13 = .ok (.bipush 99, 2) := by decide +kernel
theorem dX10_trial_15 : decode cX10_trial 15 = .ok (.invokestatic 132, 3) := by decide +kernel
theorem dX10_trial_18 : decode cX10_trial 18 = .ok (.ifCond .eq 13, 3) := by decide +kernel
theorem dX10_trial_21 : decode cX10_trial 21 = .ok (.iload_n 3, 1) := by decide +kernel
theorem dX10_trial_22 : decode cX10_trial 22 = .ok (.iconst 0, 1) := by decide +kernel
theorem dX10_trial_23 : decode cX10_trial 23 = .ok (.iload 4, 2) := by decide +kernel
theorem dX10_trial_25 : decode cX10_trial 25 = .ok (.invokestatic 132, 3) := by decide +kernel
theorem dX10_trial_28 : decode cX10_trial 28 = .ok (.ifCond .ne 6, 3) := by decide +kernel
theorem dX10_trial_31 : decode cX10_trial 31 = .ok (.bipush (-2), 2) := by decide +kernel
theorem dX10_trial_33 : decode cX10_trial 33 = .ok (.ireturn, 1) := by decide +kernel
theorem dX10_trial_34 : decode cX10_trial 34 = .ok (.aload_n 0, 1) := by decide +kernel
theorem dX10_trial_35 : decode cX10_trial 35 = .ok (.getfield 49, 3) := by decide +kernel
theorem dX10_trial_38 : decode cX10_trial 38 = .ok (.iconst 4, 1) := by decide +kernel
theorem dX10_trial_39 : decode cX10_trial 39 = .ok (.iload_n 1, 1) := by decide +kernel
theorem dX10_trial_40 : decode cX10_trial 40 = .ok (.imul, 1) := by decide +kernel
theorem dX10_trial_41 : decode cX10_trial 41 = .ok (.iload_n 2, 1) := by decide +kernel
theorem dX10_trial_42 : decode cX10_trial 42 = .ok (.iadd, 1) := by decide +kernel
theorem dX10_trial_43 : decode cX10_trial 43 = .ok (.iaload, 1) := by decide +kernel
theorem dX10_trial_44 : decode cX10_trial 44 = .ok (.iload 4, 2) := by decide +kernel
theorem dX10_trial_46 : decode cX10_trial 46 = .ok (.iadd, 1) := by decide +kernel
theorem dX10_trial_47 : decode cX10_trial 47 = .ok (.sipush 9999, 3) := by decide +kernel
theorem dX10_trial_50 : decode cX10_trial 50 = .ok (.if_icmp .le 6, 3) := by decide +kernel
theorem dX10_trial_53 : decode cX10_trial 53 = .ok (.bipush (-4), 2) := by decide +kernel
theorem dX10_trial_55 : decode cX10_trial 55 = .ok (.ireturn, 1) := by decide +kernel
theorem dX10_trial_56 : decode cX10_trial 56 = .ok (.aload_n 0, 1) := by decide +kernel
theorem dX10_trial_57 : decode cX10_trial 57 = .ok (.getfield 49, 3) := by decide +kernel
theorem dX10_trial_60 : decode cX10_trial 60 = .ok (.iconst 4, 1) := by decide +kernel
theorem dX10_trial_61 : decode cX10_trial 61 = .ok (.iload_n 1, 1) := by decide +kernel
theorem dX10_trial_62 : decode cX10_trial 62 = .ok (.imul, 1) := by decide +kernel
theorem dX10_trial_63 : decode cX10_trial 63 = .ok (.iload_n 2, 1) := by decide +kernel
theorem dX10_trial_64 : decode cX10_trial 64 = .ok (.iadd, 1) := by decide +kernel
theorem dX10_trial_65 : decode cX10_trial 65 = .ok (.dup2, 1) := by decide +kernel
theorem dX10_trial_66 : decode cX10_trial 66 = .ok (.iaload, 1) := by decide +kernel
theorem dX10_trial_67 : decode cX10_trial 67 = .ok (.iload 4, 2) := by decide +kernel
theorem dX10_trial_69 : decode cX10_trial 69 = .ok (.iadd, 1) := by decide +kernel
theorem dX10_trial_70 : decode cX10_trial 70 = .ok (.iastore, 1) := by decide +kernel
theorem dX10_trial_71 : decode cX10_trial 71 = .ok (.aload_n 0, 1) := by decide +kernel
theorem dX10_trial_72 : decode cX10_trial 72 = .ok (.getfield 52, 3) := by decide +kernel
theorem dX10_trial_75 : decode cX10_trial 75 = .ok (.iconst 4, 1) := by decide +kernel
theorem dX10_trial_76 : decode cX10_trial 76 = .ok (.iload_n 1, 1) := by decide +kernel
theorem dX10_trial_77 : decode cX10_trial 77 = .ok (.imul, 1) := by decide +kernel
theorem dX10_trial_78 : decode cX10_trial 78 = .ok (.iload_n 2, 1) := by decide +kernel
theorem dX10_trial_79 : decode cX10_trial 79 = .ok (.iadd, 1) := by decide +kernel
theorem dX10_trial_80 : decode cX10_trial 80 = .ok (.dup2, 1) := by decide +kernel
theorem dX10_trial_81 : decode cX10_trial 81 = .ok (.iaload, 1) := by decide +kernel
theorem dX10_trial_82 : decode cX10_trial 82 = .ok (.iload_n 3, 1) := by decide +kernel
theorem dX10_trial_83 : decode cX10_trial 83 = .ok (.iadd, 1) := by decide +kernel
theorem dX10_trial_84 : decode cX10_trial 84 = .ok (.iastore, 1) := by decide +kernel
theorem dX10_trial_85 : decode cX10_trial 85 = .ok (.aload_n 0, 1) := by decide +kernel
theorem dX10_trial_86 : decode cX10_trial 86 = .ok (.getfield 49, 3) := by decide +kernel
theorem dX10_trial_89 : decode cX10_trial 89 = .ok (.iconst 4, 1) := by decide +kernel
theorem dX10_trial_90 : decode cX10_trial 90 = .ok (.iload_n 1, 1) := by decide +kernel
theorem dX10_trial_91 : decode cX10_trial 91 = .ok (.imul, 1) := by decide +kernel
theorem dX10_trial_92 : decode cX10_trial 92 = .ok (.iload_n 2, 1) := by decide +kernel
theorem dX10_trial_93 : decode cX10_trial 93 = .ok (.iadd, 1) := by decide +kernel
theorem dX10_trial_94 : decode cX10_trial 94 = .ok (.iaload, 1) := by decide +kernel
theorem dX10_trial_95 : decode cX10_trial 95 = .ok (.ireturn, 1) := by decide +kernel
theorem dX10_lowest_0 : decode cX10_lowest 0 = .ok (.lload_n 0, 1) := by decide +kernel
theorem dX10_lowest_1 : decode cX10_lowest 1 = .ok (.lconst 0, 1) := by decide +kernel
theorem dX10_lowest_2 : decode cX10_lowest 2 = .ok (.lcmp, 1) := by decide +kernel
theorem dX10_lowest_3 : decode cX10_lowest 3 = .ok (.ifCond .ne 7, 3) := by decide +kernel
theorem dX10_lowest_6 : decode cX10_lowest 6 = .ok (.iload 4, 2) := by decide +kernel
theorem dX10_lowest_8 : decode cX10_lowest 8 = .ok (.i2l, 1) := by decide +kernel
theorem dX10_lowest_9 : decode cX10_lowest 9 = .ok (.lreturn, 1) := by decide +kernel
theorem dX10_lowest_10 : decode cX10_lowest 10 = .ok (.lload_n 0, 1) := by decide +kernel
theorem dX10_lowest_11 : decode cX10_lowest 11 = .ok (.lstore 5, 2) := by decide +kernel
theorem dX10_lowest_13 : decode cX10_lowest 13 = .ok (.lload_n 2, 1) := by decide +kernel
theorem dX10_lowest_14 : decode cX10_lowest 14 = .ok (.lstore 7, 2) := by decide +kernel
theorem dX10_lowest_16 : decode cX10_lowest 16 = .ok (.lload 7, 2) := by decide +kernel
theorem dX10_lowest_18 : decode cX10_lowest 18 = .ok (.lconst 0, 1) := by decide +kernel
theorem dX10_lowest_19 : decode cX10_lowest 19 = .ok (.lcmp, 1) := by decide +kernel
theorem dX10_lowest_20 : decode cX10_lowest 20 = .ok (.ifCond .eq 21, 3) := by decide +kernel
theorem dX10_lowest_23 : decode cX10_lowest 23 = .ok (.lload 5, 2) := by decide +kernel
theorem dX10_lowest_25 : decode cX10_lowest 25 = .ok (.lload 7, 2) := by decide +kernel
theorem dX10_lowest_27 : decode cX10_lowest 27 = .ok (.lrem, 1) := by decide +kernel
theorem dX10_lowest_28 : decode cX10_lowest 28 = .ok (.lstore 9, 2) := by decide +kernel
theorem dX10_lowest_30 : decode cX10_lowest 30 = .ok (.lload 7, 2) := by decide +kernel
theorem dX10_lowest_32 : decode cX10_lowest 32 = .ok (.lstore 5, 2) := by decide +kernel
theorem dX10_lowest_34 : decode cX10_lowest 34 = .ok (.lload 9, 2) := by decide +kernel
theorem dX10_lowest_36 : decode cX10_lowest 36 = .ok (.lstore 7, 2) := by decide +kernel
theorem dX10_lowest_38 : decode cX10_lowest 38 = .ok (.goto (-22), 3) := by decide +kernel
theorem dX10_lowest_41 : decode cX10_lowest 41 = .ok (.iload 4, 2) := by decide +kernel
theorem dX10_lowest_43 : decode cX10_lowest 43 = .ok (.ifCond .ne 7, 3) := by decide +kernel
theorem dX10_lowest_46 : decode cX10_lowest 46 = .ok (.lload_n 0, 1) := by decide +kernel
theorem dX10_lowest_47 : decode cX10_lowest 47 = .ok (.goto 4, 3) := by decide +kernel
theorem dX10_lowest_50 : decode cX10_lowest 50 = .ok (.lload_n 2, 1) := by decide +kernel
theorem dX10_lowest_51 : decode cX10_lowest 51 = .ok (.lload 5, 2) := by decide +kernel
theorem dX10_lowest_53 : decode cX10_lowest 53 = .ok (.ldiv, 1) := by decide +kernel
theorem dX10_lowest_54 : decode cX10_lowest 54 = .ok (.lreturn, 1) := by decide +kernel
theorem dX10_rate_0 : decode cX10_rate 0 = .ok (.iload_n 1, 1) := by decide +kernel
theorem dX10_rate_1 : decode cX10_rate 1 = .ok (.iload_n 2, 1) := by decide +kernel
theorem dX10_rate_2 : decode cX10_rate 2 = .ok (.invokestatic 335, 3) := by decide +kernel
theorem dX10_rate_5 : decode cX10_rate 5 = .ok (.ifCond .eq 47, 3) := by decide +kernel
theorem dX10_rate_8 : decode cX10_rate 8 = .ok (.iload_n 3, 1) := by decide +kernel
theorem dX10_rate_9 : decode cX10_rate 9 = .ok (.iconst 0, 1) := by decide +kernel
theorem dX10_rate_10 : decode cX10_rate 10 = .ok (.iconst 1, 1) := by decide +kernel
theorem dX10_rate_11 : decode cX10_rate 11 = .ok (.invokestatic 132, 3) := by decide +kernel
theorem dX10_rate_14 : decode cX10_rate 14 = .ok (.ifCond .eq 38, 3) := by decide +kernel
theorem dX10_rate_17 : decode cX10_rate 17 = .ok (.aload_n 0, 1) := by decide +kernel
theorem dX10_rate_18 : decode cX10_rate 18 = .ok (.getfield 52, 3) := by decide +kernel
theorem dX10_rate_21 : decode cX10_rate 21 = .ok (.iconst 4, 1) := by decide +kernel
theorem dX10_rate_22 : decode cX10_rate 22 = .ok (.iload_n 1, 1) := by decide +kernel
theorem dX10_rate_23 : decode cX10_rate 23 = .ok (.imul, 1) := by decide +kernel
theorem dX10_rate_24 : decode cX10_rate 24 = .ok (.iload_n 2, 1) := by decide +kernel
theorem dX10_rate_25 : decode cX10_rate 25 = .ok (.iadd, 1) := by decide +kernel
theorem dX10_rate_26 : decode cX10_rate 26 = .ok (.iaload, 1) := by decide +kernel
theorem dX10_rate_27 : decode cX10_rate 27 = .ok (.i2l, 1) := by decide +kernel
theorem dX10_rate_28 : decode cX10_rate 28 = .ok (.lconst 1, 1) := by decide +kernel
theorem dX10_rate_29 : decode cX10_rate 29 = .ok (.ladd, 1) := by decide +kernel
theorem dX10_rate_30 : decode cX10_rate 30 = .ok (.aload_n 0, 1) := by decide +kernel
theorem dX10_rate_31 : decode cX10_rate 31 = .ok (.getfield 49, 3) := by decide +kernel
theorem dX10_rate_34 : decode cX10_rate 34 = .ok (.iconst 4, 1) := by decide +kernel
theorem dX10_rate_35 : decode cX10_rate 35 = .ok (.iload_n 1, 1) := by decide +kernel
theorem dX10_rate_36 : decode cX10_rate 36 = .ok (.imul, 1) := by decide +kernel
theorem dX10_rate_37 : decode cX10_rate 37 = .ok (.iload_n 2, 1) := by decide +kernel
theorem dX10_rate_38 : decode cX10_rate 38 = .ok (.iadd, 1) := by decide +kernel
theorem dX10_rate_39 : decode cX10_rate 39 = .ok (.iaload, 1) := by decide +kernel
theorem dX10_rate_40 : decode cX10_rate 40 = .ok (.i2l, 1) := by decide +kernel
theorem dX10_rate_41 : decode cX10_rate 41 = .ok (.ldc2_w 338, 3) := by decide +kernel
theorem dX10_rate_44 : decode cX10_rate 44 = .ok (.ladd, 1) := by decide +kernel
theorem dX10_rate_45 : decode cX10_rate 45 = .ok (.iload_n 3, 1) := by decide +kernel
theorem dX10_rate_46 : decode cX10_rate 46 = .ok (.invokestatic 340, 3) := by decide +kernel
theorem dX10_rate_49 : decode cX10_rate 49 = .ok (.goto 6, 3) := by decide +kernel
theorem dX10_rate_52 : decode cX10_rate 52 = .ok (.ldc2_w 327, 3) := by decide +kernel
theorem dX10_rate_55 : decode cX10_rate 55 = .ok (.lreturn, 1) := by decide +kernel
theorem dX10_isLikelier_0 : decode cX10_isLikelier 0 = .ok (.aload_n 0, 1) := by decide +kernel
theorem dX10_isLikelier_1 : decode cX10_isLikelier 1 = .ok (.getfield 52, 3) := by decide +kernel
theorem dX10_isLikelier_4 : decode cX10_isLikelier 4 = .ok (.iload_n 1, 1) := by decide +kernel
theorem dX10_isLikelier_5 : decode cX10_isLikelier 5 = .ok (.iaload, 1) := by decide +kernel
theorem dX10_isLikelier_6 : decode cX10_isLikelier 6 = .ok (.iconst 1, 1) := by decide +kernel
theorem dX10_isLikelier_7 : decode cX10_isLikelier 7 = .ok (.iadd, 1) := by decide +kernel
theorem dX10_isLikelier_8 : decode cX10_isLikelier 8 = .ok (.i2l, 1) := by decide +kernel
theorem dX10_isLikelier_9 : decode cX10_isLikelier 9 = .ok (.aload_n 0, 1) := by decide +kernel
theorem dX10_isLikelier_10 : decode cX10_isLikelier 10 = .ok (.getfield 49, 3) := by decide +kernel
theorem dX10_isLikelier_13 : decode cX10_isLikelier 13 = .ok (.iload_n 2, 1) := by decide +kernel
theorem dX10_isLikelier_14 : decode cX10_isLikelier 14 = .ok (.iaload, 1) := by decide +kernel
theorem dX10_isLikelier_15 : decode cX10_isLikelier 15 = .ok (.iconst 2, 1) := by decide +kernel
theorem dX10_isLikelier_16 : decode cX10_isLikelier 16 = .ok (.iadd, 1) := by decide +kernel
theorem dX10_isLikelier_17 : decode cX10_isLikelier 17 = .ok (.i2l, 1) := by decide +kernel
theorem dX10_isLikelier_18 : decode cX10_isLikelier 18 = .ok (.lmul, 1) := by decide +kernel
theorem dX10_isLikelier_19 : decode cX10_isLikelier 19 = .ok (.aload_n 0, 1) := by decide +kernel
theorem dX10_isLikelier_20 : decode cX10_isLikelier 20 = .ok (.getfield 52, 3) := by decide +kernel
theorem dX10_isLikelier_23 : decode cX10_isLikelier 23 = .ok (.iload_n 2, 1) := by decide +kernel
theorem dX10_isLikelier_24 : decode cX10_isLikelier 24 = .ok (.iaload, 1) := by decide +kernel
theorem dX10_isLikelier_25 : decode cX10_isLikelier 25 = .ok (.iconst 1, 1) := by decide +kernel
theorem dX10_isLikelier_26 : decode cX10_isLikelier 26 = .ok (.iadd, 1) := by decide +kernel
theorem dX10_isLikelier_27 : decode cX10_isLikelier 27 = .ok (.i2l, 1) := by decide +kernel
theorem dX10_isLikelier_28 : decode cX10_isLikelier 28 = .ok (.aload_n 0, 1) := by decide +kernel
theorem dX10_isLikelier_29 : decode cX10_isLikelier 29 = .ok (.getfield 49, 3) := by decide +kernel
theorem dX10_isLikelier_32 : decode cX10_isLikelier 32 = .ok (.iload_n 1, 1) := by decide +kernel
theorem dX10_isLikelier_33 : decode cX10_isLikelier 33 = .ok (.iaload, 1) := by decide +kernel
theorem dX10_isLikelier_34 : decode cX10_isLikelier 34 = .ok (.iconst 2, 1) := by decide +kernel
theorem dX10_isLikelier_35 : decode cX10_isLikelier 35 = .ok (.iadd, 1) := by decide +kernel
theorem dX10_isLikelier_36 : decode cX10_isLikelier 36 = .ok (.i2l, 1) := by decide +kernel
theorem dX10_isLikelier_37 : decode cX10_isLikelier 37 = .ok (.lmul, 1) := by decide +kernel
theorem dX10_isLikelier_38 : decode cX10_isLikelier 38 = .ok (.lcmp, 1) := by decide +kernel
theorem dX10_isLikelier_39 : decode cX10_isLikelier 39 = .ok (.ifCond .le 7, 3) := by decide +kernel
theorem dX10_isLikelier_42 : decode cX10_isLikelier 42 = .ok (.iconst 1, 1) := by decide +kernel
theorem dX10_isLikelier_43 : decode cX10_isLikelier 43 = .ok (.goto 4, 3) := by decide +kernel
theorem dX10_isLikelier_46 : decode cX10_isLikelier 46 = .ok (.iconst 0, 1) := by decide +kernel
theorem dX10_isLikelier_47 : decode cX10_isLikelier 47 = .ok (.ireturn, 1) := by decide +kernel
theorem dX10_form_0 : decode cX10_form 0 = .ok (.iload_n 1, 1) := by decide +kernel
theorem dX10_form_1 : decode cX10_form 1 = .ok (.iconst 0, 1) := by decide +kernel
theorem dX10_form_2 : decode cX10_form 2 = .ok (.iconst 3, 1) := by decide +kernel
theorem dX10_form_3 : decode cX10_form 3 = .ok (.invokestatic 132, 3) := by decide +kernel
theorem dX10_form_6 : decode cX10_form 6 = .ok (.ifCond .ne 6, 3) := by decide +kernel
theorem dX10_form_9 : decode cX10_form 9 = .ok (.bipush (-5), 2) := by decide +kernel
theorem dX10_form_11 : decode cX10_form 11 = .ok (.ireturn, 1) := by decide +kernel
theorem dX10_form_12 : decode cX10_form 12 = .ok (.iconst 0, 1) := by decide +kernel
theorem dX10_form_13 : decode cX10_form 13 = .ok (.istore_n 2, 1) := by decide +kernel
theorem dX10_form_14 : decode cX10_form 14 = .ok (.iconst 1, 1) := by decide +kernel
theorem dX10_form_15 : decode cX10_form 15 = .ok (.istore_n 3, 1) := by decide +kernel
theorem dX10_form_16 : decode cX10_form 16 = .ok (.iload_n 3, 1) := by decide +kernel
theorem dX10_form_17 : decode cX10_form 17 = .ok (.iconst 4, 1) := by decide +kernel
theorem dX10_form_18 : decode cX10_form 18 = .ok (.if_icmp .gt 32, 3) := by decide +kernel
theorem dX10_form_21 : decode cX10_form 21 = .ok (.aload_n 0, 1) := by decide +kernel
theorem dX10_form_22 : decode cX10_form 22 = .ok (.iconst 4, 1) := by decide +kernel
theorem dX10_form_23 : decode cX10_form 23 = .ok (.iload_n 3, 1) := by decide +kernel
theorem dX10_form_24 : decode cX10_form 24 = .ok (.imul, 1) := by decide +kernel
theorem dX10_form_25 : decode cX10_form 25 = .ok (.iload_n 1, 1) := by decide +kernel
theorem dX10_form_26 : decode cX10_form 26 = .ok (.iadd, 1) := by decide +kernel
theorem dX10_form_27 : decode cX10_form 27 = .ok (.iconst 4, 1) := by decide +kernel
theorem dX10_form_28 : decode cX10_form 28 = .ok (.iload_n 2, 1) := by decide +kernel
theorem dX10_form_29 : decode cX10_form 29 = .ok (.imul, 1) := by decide +kernel
theorem dX10_form_30 : decode cX10_form 30 = .ok (.iload_n 1, 1) := by decide +kernel
theorem dX10_form_31 : decode cX10_form 31 = .ok (.iadd, 1) := by decide +kernel
theorem dX10_form_32 : decode cX10_form 32 = .ok (.invokevirtual 344, 3) := by decide +kernel
theorem dX10_form_35 : decode cX10_form 35 = .ok (.ifCond .eq 7, 3) := by decide +kernel
theorem dX10_form_38 : decode cX10_form 38 = .ok (.iload_n 3, 1) := by decide +kernel
theorem dX10_form_39 : decode cX10_form 39 = .ok (.goto 4, 3) := by decide +kernel
theorem dX10_form_42 : decode cX10_form 42 = .ok (.iload_n 2, 1) := by decide +kernel
theorem dX10_form_43 : decode cX10_form 43 = .ok (.istore_n 2, 1) := by decide +kernel
theorem dX10_form_44 : decode cX10_form 44 = .ok (.iinc 3 1, 3) := by decide +kernel
theorem dX10_form_47 : decode cX10_form 47 = .ok (.goto (-31), 3) := by decide +kernel
theorem dX10_form_50 : decode cX10_form 50 = .ok (.iload_n 2, 1) := by decide +kernel
theorem dX10_form_51 : decode cX10_form 51 = .ok (.ireturn, 1) := by decide +kernel
theorem dX10_leastLikely_0 : decode cX10_leastLikely 0 = .ok (.iconst 4, 1) := by decide +kernel
theorem dX10_leastLikely_1 : decode cX10_leastLikely 1 = .ok (.iload_n 1, 1) := by decide +kernel
theorem dX10_leastLikely_2 : decode cX10_leastLikely 2 = .ok (.imul, 1) := by decide +kernel
theorem dX10_leastLikely_3 : decode cX10_leastLikely 3 = .ok (.istore_n 2, 1) := by decide +kernel
theorem dX10_leastLikely_4 : decode cX10_leastLikely 4 = .ok (.iconst 1, 1) := by decide +kernel
theorem dX10_leastLikely_5 : decode cX10_leastLikely 5 = .ok (.istore_n 3, 1) := by decide +kernel
theorem dX10_leastLikely_6 : decode cX10_leastLikely 6 = .ok (.iload_n 3, 1) := by decide +kernel
theorem dX10_leastLikely_7 : decode cX10_leastLikely 7 = .ok (.iconst 3, 1) := by decide +kernel
theorem dX10_leastLikely_8 : decode cX10_leastLikely 8 = .ok (.if_icmp .gt 32, 3) := by decide +kernel
theorem dX10_leastLikely_11 : decode cX10_leastLikely 11 = .ok (.aload_n 0, 1) := by decide +kernel
theorem dX10_leastLikely_12 : decode cX10_leastLikely 12 = .ok (.iload_n 2, 1) := by decide +kernel
theorem dX10_leastLikely_13 : decode cX10_leastLikely 13 = .ok (.iconst 4, 1) := by decide +kernel
theorem dX10_leastLikely_14 : decode cX10_leastLikely 14 = .ok (.iload_n 1, 1) := by decide +kernel
theorem dX10_leastLikely_15 : decode cX10_leastLikely 15 = .ok (.imul, 1) := by decide +kernel
theorem dX10_leastLikely_16 : decode cX10_leastLikely 16 = .ok (.iload_n 3, 1) := by decide +kernel
theorem dX10_leastLikely_17 : decode cX10_leastLikely 17 = .ok (.iadd, 1) := by decide +kernel
theorem dX10_leastLikely_18 : decode cX10_leastLikely 18 = .ok (.invokevirtual 344, 3) := by decide +kernel
theorem dX10_leastLikely_21 : decode cX10_leastLikely 21 = .ok (.ifCond .eq 11, 3) := by decide +kernel
theorem dX10_leastLikely_24 : decode cX10_leastLikely 24 = .ok (.iconst 4, 1) := by decide +kernel
theorem dX10_leastLikely_25 : decode cX10_leastLikely 25 = .ok (.iload_n 1, 1) := by decide +kernel
theorem dX10_leastLikely_26 : decode cX10_leastLikely 26 = .ok (.imul, 1) := by decide +kernel
theorem dX10_leastLikely_27 : decode cX10_leastLikely 27 = .ok (.iload_n 3, 1) := by decide +kernel
theorem dX10_leastLikely_28 : decode cX10_leastLikely 28 = .ok (.iadd, 1) := by decide +kernel
theorem dX10_leastLikely_29 : decode cX10_leastLikely 29 = .ok (.goto 4, 3) := by decide +kernel
theorem dX10_leastLikely_32 : decode cX10_leastLikely 32 = .ok (.iload_n 2, 1) := by decide +kernel
theorem dX10_leastLikely_33 : decode cX10_leastLikely 33 = .ok (.istore_n 2, 1) := by decide +kernel
theorem dX10_leastLikely_34 : decode cX10_leastLikely 34 = .ok (.iinc 3 1, 3) := by decide +kernel
theorem dX10_leastLikely_37 : decode cX10_leastLikely 37 = .ok (.goto (-31), 3) := by decide +kernel
theorem dX10_leastLikely_40 : decode cX10_leastLikely 40 = .ok (.iload_n 2, 1) := by decide +kernel
theorem dX10_leastLikely_41 : decode cX10_leastLikely 41 = .ok (.ireturn, 1) := by decide +kernel
theorem dX10_joined_0 : decode cX10_joined 0 = .ok (.iconst 0, 1) := by decide +kernel
theorem dX10_joined_1 : decode cX10_joined 1 = .ok (.istore_n 1, 1) := by decide +kernel
theorem dX10_joined_2 : decode cX10_joined 2 = .ok (.iconst 1, 1) := by decide +kernel
theorem dX10_joined_3 : decode cX10_joined 3 = .ok (.istore_n 2, 1) := by decide +kernel
theorem dX10_joined_4 : decode cX10_joined 4 = .ok (.iload_n 2, 1) := by decide +kernel
theorem dX10_joined_5 : decode cX10_joined 5 = .ok (.iconst 4, 1) := by decide +kernel
theorem dX10_joined_6 : decode cX10_joined 6 = .ok (.if_icmp .gt 32, 3) := by decide +kernel
theorem dX10_joined_9 : decode cX10_joined 9 = .ok (.aload_n 0, 1) := by decide +kernel
theorem dX10_joined_10 : decode cX10_joined 10 = .ok (.aload_n 0, 1) := by decide +kernel
theorem dX10_joined_11 : decode cX10_joined 11 = .ok (.iload_n 2, 1) := by decide +kernel
theorem dX10_joined_12 : decode cX10_joined 12 = .ok (.invokevirtual 347, 3) := by decide +kernel
theorem dX10_joined_15 : decode cX10_joined 15 = .ok (.aload_n 0, 1) := by decide +kernel
theorem dX10_joined_16 : decode cX10_joined 16 = .ok (.iload_n 1, 1) := by decide +kernel
theorem dX10_joined_17 : decode cX10_joined 17 = .ok (.invokevirtual 347, 3) := by decide +kernel
theorem dX10_joined_20 : decode cX10_joined 20 = .ok (.invokevirtual 344, 3) := by decide +kernel
theorem dX10_joined_23 : decode cX10_joined 23 = .ok (.ifCond .eq 7, 3) := by decide +kernel
theorem dX10_joined_26 : decode cX10_joined 26 = .ok (.iload_n 2, 1) := by decide +kernel
theorem dX10_joined_27 : decode cX10_joined 27 = .ok (.goto 4, 3) := by decide +kernel
theorem dX10_joined_30 : decode cX10_joined 30 = .ok (.iload_n 1, 1) := by decide +kernel
theorem dX10_joined_31 : decode cX10_joined 31 = .ok (.istore_n 1, 1) := by decide +kernel
theorem dX10_joined_32 : decode cX10_joined 32 = .ok (.iinc 2 1, 3) := by decide +kernel
theorem dX10_joined_35 : decode cX10_joined 35 = .ok (.goto (-31), 3) := by decide +kernel
theorem dX10_joined_38 : decode cX10_joined 38 = .ok (.iload_n 1, 1) := by decide +kernel
theorem dX10_joined_39 : decode cX10_joined 39 = .ok (.ireturn, 1) := by decide +kernel
theorem dX10_filmWrong_0 : decode cX10_filmWrong 0 = .ok (.iload_n 1, 1) := by decide +kernel
theorem dX10_filmWrong_1 : decode cX10_filmWrong 1 = .ok (.iconst 0, 1) := by decide +kernel
theorem dX10_filmWrong_2 : decode cX10_filmWrong 2 = .ok (.iconst 3, 1) := by decide +kernel
theorem dX10_filmWrong_3 : decode cX10_filmWrong 3 = .ok (.invokestatic 132, 3) := by decide +kernel
theorem dX10_filmWrong_6 : decode cX10_filmWrong 6 = .ok (.ifCond .ne 6, 3) := by decide +kernel
theorem dX10_filmWrong_9 : decode cX10_filmWrong 9 = .ok (.bipush (-2), 2) := by decide +kernel
theorem dX10_filmWrong_11 : decode cX10_filmWrong 11 = .ok (.ireturn, 1) := by decide +kernel
theorem dX10_filmWrong_12 : decode cX10_filmWrong 12 = .ok (.aload_n 0, 1) := by decide +kernel
theorem dX10_filmWrong_13 : decode cX10_filmWrong 13 = .ok (.getfield 76, 3) := by decide +kernel
theorem dX10_filmWrong_16 : decode cX10_filmWrong 16 = .ok (.iload_n 1, 1) := by decide +kernel
theorem dX10_filmWrong_17 : decode cX10_filmWrong 17 = .ok (.iaload, 1) := by decide +kernel
theorem dX10_filmWrong_18 : decode cX10_filmWrong 18 = .ok (.iconst (-1), 1) := by decide +kernel
theorem dX10_filmWrong_19 : decode cX10_filmWrong 19 = .ok (.if_icmp .ne 6, 3) := by decide +kernel
theorem dX10_filmWrong_22 : decode cX10_filmWrong 22 = .ok (.bipush (-11), 2) := by decide +kernel
theorem dX10_filmWrong_24 : decode cX10_filmWrong 24 = .ok (.ireturn, 1) := by decide +kernel
theorem dX10_filmWrong_25 : decode cX10_filmWrong 25 = .ok (.aload_n 0, 1) := by decide +kernel
theorem dX10_filmWrong_26 : decode cX10_filmWrong 26 = .ok (.getfield 79, 3) := by decide +kernel
theorem dX10_filmWrong_29 : decode cX10_filmWrong 29 = .ok (.iload_n 1, 1) := by decide +kernel
theorem dX10_filmWrong_30 : decode cX10_filmWrong 30 = .ok (.iaload, 1) := by decide +kernel
theorem dX10_filmWrong_31 : decode cX10_filmWrong 31 = .ok (.iconst 1, 1) := by decide +kernel
theorem dX10_filmWrong_32 : decode cX10_filmWrong 32 = .ok (.bipush 12, 2) := by decide +kernel
theorem dX10_filmWrong_34 : decode cX10_filmWrong 34 = .ok (.aload_n 0, 1) := by decide +kernel
theorem dX10_filmWrong_35 : decode cX10_filmWrong 35 = .ok (.getfield 139, 3) := by decide +kernel
theorem dX10_filmWrong_38 : decode cX10_filmWrong 38 = .ok (.isub, 1) := by decide +kernel
theorem dX10_filmWrong_39 : decode cX10_filmWrong 39 = .ok (.invokestatic 132, 3) := by decide +kernel
theorem dX10_filmWrong_42 : decode cX10_filmWrong 42 = .ok (.ifCond .eq 7, 3) := by decide +kernel
theorem dX10_filmWrong_45 : decode cX10_filmWrong 45 = .ok (.iconst 0, 1) := by decide +kernel
theorem dX10_filmWrong_46 : decode cX10_filmWrong 46 = .ok (.goto 5, 3) := by decide +kernel
theorem dX10_filmWrong_49 : decode cX10_filmWrong 49 = .ok (.bipush (-2), 2) := by decide +kernel
theorem dX10_filmWrong_51 : decode cX10_filmWrong 51 = .ok (.ireturn, 1) := by decide +kernel
theorem dX10_elsewhere_0 : decode cX10_elsewhere 0 = .ok (.iconst 0, 1) := by decide +kernel
theorem dX10_elsewhere_1 : decode cX10_elsewhere 1 = .ok (.istore_n 3, 1) := by decide +kernel
theorem dX10_elsewhere_2 : decode cX10_elsewhere 2 = .ok (.iload_n 3, 1) := by decide +kernel
theorem dX10_elsewhere_3 : decode cX10_elsewhere 3 = .ok (.aload_n 0, 1) := by decide +kernel
theorem dX10_elsewhere_4 : decode cX10_elsewhere 4 = .ok (.getfield 79, 3) := by decide +kernel
theorem dX10_elsewhere_7 : decode cX10_elsewhere 7 = .ok (.iload_n 2, 1) := by decide +kernel
theorem dX10_elsewhere_8 : decode cX10_elsewhere 8 = .ok (.iaload, 1) := by decide +kernel
theorem dX10_elsewhere_9 : decode cX10_elsewhere 9 = .ok (.if_icmp .ge 41, 3) := by decide +kernel
theorem dX10_elsewhere_12 : decode cX10_elsewhere 12 = .ok (.aload_n 0, 1) := by decide +kernel
theorem dX10_elsewhere_13 : decode cX10_elsewhere 13 = .ok (.getfield 82, 3) := by decide +kernel
theorem dX10_elsewhere_16 : decode cX10_elsewhere 16 = .ok (.bipush 40, 2) := by decide +kernel
theorem dX10_elsewhere_18 : decode cX10_elsewhere 18 = .ok (.iload_n 2, 1) := by decide +kernel
theorem dX10_elsewhere_19 : decode cX10_elsewhere 19 = .ok (.imul, 1) := by decide +kernel
theorem dX10_elsewhere_20 : decode cX10_elsewhere 20 = .ok (.iload_n 3, 1) := by decide +kernel
theorem dX10_elsewhere_21 : decode cX10_elsewhere 21 = .ok (.iadd, 1) := by decide +kernel
theorem dX10_elsewhere_22 : decode cX10_elsewhere 22 = .ok (.iaload, 1) := by decide +kernel
theorem dX10_elsewhere_23 : decode cX10_elsewhere 23 = .ok (.aload_n 0, 1) := by decide +kernel
theorem dX10_elsewhere_24 : decode cX10_elsewhere 24 = .ok (.getfield 112, 3) := by decide +kernel
theorem dX10_elsewhere_27 : decode cX10_elsewhere 27 = .ok (.bipush 6, 2) := by decide +kernel
theorem dX10_elsewhere_29 : decode cX10_elsewhere 29 = .ok (.aload_n 0, 1) := by decide +kernel
theorem dX10_elsewhere_30 : decode cX10_elsewhere 30 = .ok (.getfield 139, 3) := by decide +kernel
theorem dX10_elsewhere_33 : decode cX10_elsewhere 33 = .ok (.iload_n 3, 1) := by decide +kernel
theorem dX10_elsewhere_34 : decode cX10_elsewhere 34 = .ok (.iadd, 1) := by decide +kernel
theorem dX10_elsewhere_35 : decode cX10_elsewhere 35 = .ok (.imul, 1) := by decide +kernel
theorem dX10_elsewhere_36 : decode cX10_elsewhere 36 = .ok (.iload_n 1, 1) := by decide +kernel
theorem dX10_elsewhere_37 : decode cX10_elsewhere 37 = .ok (.iadd, 1) := by decide +kernel
theorem dX10_elsewhere_38 : decode cX10_elsewhere 38 = .ok (.iaload, 1) := by decide +kernel
theorem dX10_elsewhere_39 : decode cX10_elsewhere 39 = .ok (.if_icmp .eq 5, 3) := by decide +kernel
theorem dX10_elsewhere_42 : decode cX10_elsewhere 42 = .ok (.iload_n 3, 1) := by decide +kernel
theorem dX10_elsewhere_43 : decode cX10_elsewhere 43 = .ok (.ireturn, 1) := by decide +kernel
theorem dX10_elsewhere_44 : decode cX10_elsewhere 44 = .ok (.iinc 3 1, 3) := by decide +kernel
theorem dX10_elsewhere_47 : decode cX10_elsewhere 47 = .ok (.goto (-45), 3) := by decide +kernel
theorem dX10_elsewhere_50 : decode cX10_elsewhere 50 = .ok (.iconst (-1), 1) := by decide +kernel
theorem dX10_elsewhere_51 : decode cX10_elsewhere 51 = .ok (.ireturn, 1) := by decide +kernel
theorem dX10_judge_0 : decode cX10_judge 0 = .ok (.aload_n 0, 1) := by decide +kernel
theorem dX10_judge_1 : decode cX10_judge 1 = .ok (.iload_n 1, 1) := by decide +kernel
theorem dX10_judge_2 : decode cX10_judge 2 = .ok (.invokevirtual 236, 3) := by decide +kernel
theorem dX10_judge_5 : decode cX10_judge 5 = .ok (.ifCond .ne 6, 3) := by decide +kernel
theorem dX10_judge_8 : decode cX10_judge 8 = .ok (.bipush (-5), 2) := by decide +kernel
theorem dX10_judge_10 : decode cX10_judge 10 = .ok (.ireturn, 1) := by decide +kernel
theorem dX10_judge_11 : decode cX10_judge 11 = .ok (.aload_n 0, 1) := by decide +kernel
theorem dX10_judge_12 : decode cX10_judge 12 = .ok (.iload_n 2, 1) := by decide +kernel
theorem dX10_judge_13 : decode cX10_judge 13 = .ok (.invokevirtual 350, 3) := by decide +kernel
theorem dX10_judge_16 : decode cX10_judge 16 = .ok (.istore_n 3, 1) := by decide +kernel
theorem dX10_judge_17 : decode cX10_judge 17 = .ok (.iload_n 3, 1) := by decide +kernel
theorem dX10_judge_18 : decode cX10_judge 18 = .ok (.ifCond .eq 5, 3) := by decide +kernel
theorem dX10_judge_21 : decode cX10_judge 21 = .ok (.iload_n 3, 1) := by decide +kernel
theorem dX10_judge_22 : decode cX10_judge 22 = .ok (.ireturn, 1) := by decide +kernel
theorem dX10_judge_23 : decode cX10_judge 23 = .ok (.aload_n 0, 1) := by decide +kernel
theorem dX10_judge_24 : decode cX10_judge 24 = .ok (.aload_n 0, 1) := by decide +kernel
theorem dX10_judge_25 : decode cX10_judge 25 = .ok (.getfield 79, 3) := by decide +kernel
theorem dX10_judge_28 : decode cX10_judge 28 = .ok (.iload_n 2, 1) := by decide +kernel
theorem dX10_judge_29 : decode cX10_judge 29 = .ok (.iaload, 1) := by decide +kernel
theorem dX10_judge_30 : decode cX10_judge 30 = .ok (.invokevirtual 294, 3) := by decide +kernel
theorem dX10_judge_33 : decode cX10_judge 33 = .ok (.aload_n 0, 1) := by decide +kernel
theorem dX10_judge_34 : decode cX10_judge 34 = .ok (.iload_n 1, 1) := by decide +kernel
theorem dX10_judge_35 : decode cX10_judge 35 = .ok (.iload_n 2, 1) := by decide +kernel
theorem dX10_judge_36 : decode cX10_judge 36 = .ok (.invokevirtual 353, 3) := by decide +kernel
theorem dX10_judge_39 : decode cX10_judge 39 = .ok (.ireturn, 1) := by decide +kernel
theorem dX10_which_0 : decode cX10_which 0 = .ok (.aload_n 0, 1) := by decide +kernel
theorem dX10_which_1 : decode cX10_which 1 = .ok (.iload_n 1, 1) := by decide +kernel
theorem dX10_which_2 : decode cX10_which 2 = .ok (.invokevirtual 350, 3) := by decide +kernel
theorem dX10_which_5 : decode cX10_which 5 = .ok (.istore_n 2, 1) := by decide +kernel
theorem dX10_which_6 : decode cX10_which 6 = .ok (.iload_n 2, 1) := by decide +kernel
theorem dX10_which_7 : decode cX10_which 7 = .ok (.ifCond .eq 5, 3) := by decide +kernel
theorem dX10_which_10 : decode cX10_which 10 = .ok (.iload_n 2, 1) := by decide +kernel
theorem dX10_which_11 : decode cX10_which 11 = .ok (.ireturn, 1) := by decide +kernel
theorem dX10_which_12 : decode cX10_which 12 = .ok (.aload_n 0, 1) := by decide +kernel
theorem dX10_which_13 : decode cX10_which 13 = .ok (.aload_n 0, 1) := by decide +kernel
theorem dX10_which_14 : decode cX10_which 14 = .ok (.getfield 79, 3) := by decide +kernel
theorem dX10_which_17 : decode cX10_which 17 = .ok (.iload_n 1, 1) := by decide +kernel
theorem dX10_which_18 : decode cX10_which 18 = .ok (.iaload, 1) := by decide +kernel
theorem dX10_which_19 : decode cX10_which 19 = .ok (.invokevirtual 294, 3) := by decide +kernel
theorem dX10_which_22 : decode cX10_which 22 = .ok (.iconst 0, 1) := by decide +kernel
theorem dX10_which_23 : decode cX10_which 23 = .ok (.istore_n 3, 1) := by decide +kernel
theorem dX10_which_24 : decode cX10_which 24 = .ok (.iconst 0, 1) := by decide +kernel
theorem dX10_which_25 : decode cX10_which 25 = .ok (.istore 4, 2) := by decide +kernel
theorem dX10_which_27 : decode cX10_which 27 = .ok (.iload 4, 2) := by decide +kernel
theorem dX10_which_29 : decode cX10_which 29 = .ok (.aload_n 0, 1) := by decide +kernel
theorem dX10_which_30 : decode cX10_which 30 = .ok (.getfield 136, 3) := by decide +kernel
theorem dX10_which_33 : decode cX10_which 33 = .ok (.if_icmp .ge 31, 3) := by decide +kernel
theorem dX10_which_36 : decode cX10_which 36 = .ok (.iload_n 3, 1) := by decide +kernel
theorem dX10_which_37 : decode cX10_which 37 = .ok (.aload_n 0, 1) := by decide +kernel
theorem dX10_which_38 : decode cX10_which 38 = .ok (.iload 4, 2) := by decide +kernel
theorem dX10_which_40 : decode cX10_which 40 = .ok (.iload_n 1, 1) := by decide +kernel
theorem dX10_which_41 : decode cX10_which 41 = .ok (.invokevirtual 353, 3) := by decide +kernel
theorem dX10_which_44 : decode cX10_which 44 = .ok (.iconst (-1), 1) := by decide +kernel
theorem dX10_which_45 : decode cX10_which 45 = .ok (.if_icmp .ne 10, 3) := by decide +kernel
theorem dX10_which_48 : decode cX10_which 48 = .ok (.iconst 1, 1) := by decide +kernel
theorem dX10_which_49 : decode cX10_which 49 = .ok (.iload 4, 2) := by decide +kernel
theorem dX10_which_51 : decode cX10_which 51 = .ok (.ishl, 1) := by decide +kernel
theorem dX10_which_52 : decode cX10_which 52 = .ok (.goto 4, 3) := by decide +kernel
theorem dX10_which_55 : decode cX10_which 55 = .ok (.iconst 0, 1) := by decide +kernel
theorem dX10_which_56 : decode cX10_which 56 = .ok (.ior, 1) := by decide +kernel
theorem dX10_which_57 : decode cX10_which 57 = .ok (.istore_n 3, 1) := by decide +kernel
theorem dX10_which_58 : decode cX10_which 58 = .ok (.iinc 4 1, 3) := by decide +kernel
theorem dX10_which_61 : decode cX10_which 61 = .ok (.goto (-34), 3) := by decide +kernel
theorem dX10_which_64 : decode cX10_which 64 = .ok (.iload_n 3, 1) := by decide +kernel
theorem dX10_which_65 : decode cX10_which 65 = .ok (.ireturn, 1) := by decide +kernel
theorem dX10_laws_0 : decode cX10_laws 0 = .ok (.aload_n 0, 1) := by decide +kernel
theorem dX10_laws_1 : decode cX10_laws 1 = .ok (.iload_n 1, 1) := by decide +kernel
theorem dX10_laws_2 : decode cX10_laws 2 = .ok (.invokevirtual 236, 3) := by decide +kernel
theorem dX10_laws_5 : decode cX10_laws 5 = .ok (.ifCond .ne 6, 3) := by decide +kernel
theorem dX10_laws_8 : decode cX10_laws 8 = .ok (.bipush (-5), 2) := by decide +kernel
theorem dX10_laws_10 : decode cX10_laws 10 = .ok (.ireturn, 1) := by decide +kernel
theorem dX10_laws_11 : decode cX10_laws 11 = .ok (.aload_n 0, 1) := by decide +kernel
theorem dX10_laws_12 : decode cX10_laws 12 = .ok (.iload_n 2, 1) := by decide +kernel
theorem dX10_laws_13 : decode cX10_laws 13 = .ok (.invokevirtual 350, 3) := by decide +kernel
theorem dX10_laws_16 : decode cX10_laws 16 = .ok (.istore_n 3, 1) := by decide +kernel
theorem dX10_laws_17 : decode cX10_laws 17 = .ok (.iload_n 3, 1) := by decide +kernel
theorem dX10_laws_18 : decode cX10_laws 18 = .ok (.ifCond .eq 5, 3) := by decide +kernel
theorem dX10_laws_21 : decode cX10_laws 21 = .ok (.iload_n 3, 1) := by decide +kernel
theorem dX10_laws_22 : decode cX10_laws 22 = .ok (.ireturn, 1) := by decide +kernel
theorem dX10_laws_23 : decode cX10_laws 23 = .ok (.aload_n 0, 1) := by decide +kernel
theorem dX10_laws_24 : decode cX10_laws 24 = .ok (.getfield 160, 3) := by decide +kernel
theorem dX10_laws_27 : decode cX10_laws 27 = .ok (.istore 4, 2) := by decide +kernel
theorem dX10_laws_29 : decode cX10_laws 29 = .ok (.iconst 0, 1) := by decide +kernel
theorem dX10_laws_30 : decode cX10_laws 30 = .ok (.istore 5, 2) := by decide +kernel
theorem dX10_laws_32 : decode cX10_laws 32 = .ok (.iconst 0, 1) := by decide +kernel
theorem dX10_laws_33 : decode cX10_laws 33 = .ok (.istore 6, 2) := by decide +kernel
theorem dX10_laws_35 : decode cX10_laws 35 = .ok (.iload 6, 2) := by decide +kernel
theorem dX10_laws_37 : decode cX10_laws 37 = .ok (.aload_n 0, 1) := by decide +kernel
theorem dX10_laws_38 : decode cX10_laws 38 = .ok (.getfield 157, 3) := by decide +kernel
theorem dX10_laws_41 : decode cX10_laws 41 = .ok (.if_icmp .ge 48, 3) := by decide +kernel
theorem dX10_laws_44 : decode cX10_laws 44 = .ok (.aload_n 0, 1) := by decide +kernel
theorem dX10_laws_45 : decode cX10_laws 45 = .ok (.iload 6, 2) := by decide +kernel
theorem dX10_laws_47 : decode cX10_laws 47 = .ok (.putfield 160, 3) := by decide +kernel
theorem dX10_laws_50 : decode cX10_laws 50 = .ok (.aload_n 0, 1) := by decide +kernel
theorem dX10_laws_51 : decode cX10_laws 51 = .ok (.aload_n 0, 1) := by decide +kernel
theorem dX10_laws_52 : decode cX10_laws 52 = .ok (.getfield 79, 3) := by decide +kernel
theorem dX10_laws_55 : decode cX10_laws 55 = .ok (.iload_n 2, 1) := by decide +kernel
theorem dX10_laws_56 : decode cX10_laws 56 = .ok (.iaload, 1) := by decide +kernel
theorem dX10_laws_57 : decode cX10_laws 57 = .ok (.invokevirtual 294, 3) := by decide +kernel
theorem dX10_laws_60 : decode cX10_laws 60 = .ok (.iload 5, 2) := by decide +kernel
theorem dX10_laws_62 : decode cX10_laws 62 = .ok (.aload_n 0, 1) := by decide +kernel
theorem dX10_laws_63 : decode cX10_laws 63 = .ok (.iload_n 1, 1) := by decide +kernel
theorem dX10_laws_64 : decode cX10_laws 64 = .ok (.iload_n 2, 1) := by decide +kernel
theorem dX10_laws_65 : decode cX10_laws 65 = .ok (.invokevirtual 353, 3) := by decide +kernel
theorem dX10_laws_68 : decode cX10_laws 68 = .ok (.iconst (-1), 1) := by decide +kernel
theorem dX10_laws_69 : decode cX10_laws 69 = .ok (.if_icmp .ne 10, 3) := by decide +kernel
theorem dX10_laws_72 : decode cX10_laws 72 = .ok (.iconst 1, 1) := by decide +kernel
theorem dX10_laws_73 : decode cX10_laws 73 = .ok (.iload 6, 2) := by decide +kernel
theorem dX10_laws_75 : decode cX10_laws 75 = .ok (.ishl, 1) := by decide +kernel
theorem dX10_laws_76 : decode cX10_laws 76 = .ok (.goto 4, 3) := by decide +kernel
theorem dX10_laws_79 : decode cX10_laws 79 = .ok (.iconst 0, 1) := by decide +kernel
theorem dX10_laws_80 : decode cX10_laws 80 = .ok (.ior, 1) := by decide +kernel
theorem dX10_laws_81 : decode cX10_laws 81 = .ok (.istore 5, 2) := by decide +kernel
theorem dX10_laws_83 : decode cX10_laws 83 = .ok (.iinc 6 1, 3) := by decide +kernel
theorem dX10_laws_86 : decode cX10_laws 86 = .ok (.goto (-51), 3) := by decide +kernel
theorem dX10_laws_89 : decode cX10_laws 89 = .ok (.aload_n 0, 1) := by decide +kernel
theorem dX10_laws_90 : decode cX10_laws 90 = .ok (.iload 4, 2) := by decide +kernel
theorem dX10_laws_92 : decode cX10_laws 92 = .ok (.putfield 160, 3) := by decide +kernel
theorem dX10_laws_95 : decode cX10_laws 95 = .ok (.iload 5, 2) := by decide +kernel
theorem dX10_laws_97 : decode cX10_laws 97 = .ok (.ireturn, 1) := by decide +kernel
theorem dX10_film_0 : decode cX10_film 0 = .ok (.aload_n 0, 1) := by decide +kernel
theorem dX10_film_1 : decode cX10_film 1 = .ok (.iload_n 1, 1) := by decide +kernel
theorem dX10_film_2 : decode cX10_film 2 = .ok (.invokevirtual 236, 3) := by decide +kernel
theorem dX10_film_5 : decode cX10_film 5 = .ok (.ifCond .ne 6, 3) := by decide +kernel
theorem dX10_film_8 : decode cX10_film 8 = .ok (.bipush (-5), 2) := by decide +kernel
theorem dX10_film_10 : decode cX10_film 10 = .ok (.ireturn, 1) := by decide +kernel
theorem dX10_film_11 : decode cX10_film 11 = .ok (.iload_n 2, 1) := by decide +kernel
theorem dX10_film_12 : decode cX10_film 12 = .ok (.iconst 0, 1) := by decide +kernel
theorem dX10_film_13 : decode cX10_film 13 = .ok (.iconst 3, 1) := by decide +kernel
theorem dX10_film_14 : decode cX10_film 14 = .ok (.invokestatic 132, 3) := by decide +kernel
theorem dX10_film_17 : decode cX10_film 17 = .ok (.ifCond .ne 6, 3) := by decide +kernel
theorem dX10_film_20 : decode cX10_film 20 = .ok (.bipush (-2), 2) := by decide +kernel
theorem dX10_film_22 : decode cX10_film 22 = .ok (.ireturn, 1) := by decide +kernel
theorem dX10_film_23 : decode cX10_film 23 = .ok (.aload_n 0, 1) := by decide +kernel
theorem dX10_film_24 : decode cX10_film 24 = .ok (.iload_n 3, 1) := by decide +kernel
theorem dX10_film_25 : decode cX10_film 25 = .ok (.invokevirtual 291, 3) := by decide +kernel
theorem dX10_film_28 : decode cX10_film 28 = .ok (.ifCond .ne 6, 3) := by decide +kernel
theorem dX10_film_31 : decode cX10_film 31 = .ok (.bipush (-7), 2) := by decide +kernel
theorem dX10_film_33 : decode cX10_film 33 = .ok (.ireturn, 1) := by decide +kernel
theorem dX10_film_34 : decode cX10_film 34 = .ok (.aload_n 0, 1) := by decide +kernel
theorem dX10_film_35 : decode cX10_film 35 = .ok (.iload_n 3, 1) := by decide +kernel
theorem dX10_film_36 : decode cX10_film 36 = .ok (.invokevirtual 294, 3) := by decide +kernel
theorem dX10_film_39 : decode cX10_film 39 = .ok (.aload_n 0, 1) := by decide +kernel
theorem dX10_film_40 : decode cX10_film 40 = .ok (.getfield 76, 3) := by decide +kernel
theorem dX10_film_43 : decode cX10_film 43 = .ok (.iload_n 2, 1) := by decide +kernel
theorem dX10_film_44 : decode cX10_film 44 = .ok (.iconst 2, 1) := by decide +kernel
theorem dX10_film_45 : decode cX10_film 45 = .ok (.iastore, 1) := by decide +kernel
theorem dX10_film_46 : decode cX10_film 46 = .ok (.aload_n 0, 1) := by decide +kernel
theorem dX10_film_47 : decode cX10_film 47 = .ok (.getfield 79, 3) := by decide +kernel
theorem dX10_film_50 : decode cX10_film 50 = .ok (.iload_n 2, 1) := by decide +kernel
theorem dX10_film_51 : decode cX10_film 51 = .ok (.iload_n 3, 1) := by decide +kernel
theorem dX10_film_52 : decode cX10_film 52 = .ok (.iastore, 1) := by decide +kernel
theorem dX10_film_53 : decode cX10_film 53 = .ok (.iconst 0, 1) := by decide +kernel
theorem dX10_film_54 : decode cX10_film 54 = .ok (.istore 4, 2) := by decide +kernel
theorem dX10_film_56 : decode cX10_film 56 = .ok (.iload 4, 2) := by decide +kernel
theorem dX10_film_58 : decode cX10_film 58 = .ok (.bipush 40, 2) := by decide +kernel
theorem dX10_film_60 : decode cX10_film 60 = .ok (.if_icmp .ge 48, 3) := by decide +kernel
theorem dX10_film_63 : decode cX10_film 63 = .ok (.aload_n 0, 1) := by decide +kernel
theorem dX10_film_64 : decode cX10_film 64 = .ok (.getfield 82, 3) := by decide +kernel
theorem dX10_film_67 : decode cX10_film 67 = .ok (.bipush 40, 2) := by decide +kernel
theorem dX10_film_69 : decode cX10_film 69 = .ok (.iload_n 2, 1) := by decide +kernel
theorem dX10_film_70 : decode cX10_film 70 = .ok (.imul, 1) := by decide +kernel
theorem dX10_film_71 : decode cX10_film 71 = .ok (.iload 4, 2) := by decide +kernel
theorem dX10_film_73 : decode cX10_film 73 = .ok (.iadd, 1) := by decide +kernel
theorem dX10_film_74 : decode cX10_film 74 = .ok (.iload 4, 2) := by decide +kernel
theorem dX10_film_76 : decode cX10_film 76 = .ok (.iload_n 3, 1) := by decide +kernel
theorem dX10_film_77 : decode cX10_film 77 = .ok (.if_icmp .ge 23, 3) := by decide +kernel
theorem dX10_film_80 : decode cX10_film 80 = .ok (.aload_n 0, 1) := by decide +kernel
theorem dX10_film_81 : decode cX10_film 81 = .ok (.getfield 112, 3) := by decide +kernel
theorem dX10_film_84 : decode cX10_film 84 = .ok (.bipush 6, 2) := by decide +kernel
theorem dX10_film_86 : decode cX10_film 86 = .ok (.aload_n 0, 1) := by decide +kernel
theorem dX10_film_87 : decode cX10_film 87 = .ok (.getfield 139, 3) := by decide +kernel
theorem dX10_film_90 : decode cX10_film 90 = .ok (.iload 4, 2) := by decide +kernel
theorem dX10_film_92 : decode cX10_film 92 = .ok (.iadd, 1) := by decide +kernel
theorem dX10_film_93 : decode cX10_film 93 = .ok (.imul, 1) := by decide +kernel
theorem dX10_film_94 : decode cX10_film 94 = .ok (.iload_n 1, 1) := by decide +kernel
theorem dX10_film_95 : decode cX10_film 95 = .ok (.iadd, 1) := by decide +kernel
theorem dX10_film_96 : decode cX10_film 96 = .ok (.iaload, 1) := by decide +kernel
theorem dX10_film_97 : decode cX10_film 97 = .ok (.goto 4, 3) := by decide +kernel
theorem dX10_film_100 : decode cX10_film 100 = .ok (.iconst 0, 1) := by decide +kernel
theorem dX10_film_101 : decode cX10_film 101 = .ok (.iastore, 1) := by decide +kernel
theorem dX10_film_102 : decode cX10_film 102 = .ok (.iinc 4 1, 3) := by decide +kernel
theorem dX10_film_105 : decode cX10_film 105 = .ok (.goto (-49), 3) := by decide +kernel
theorem dX10_film_108 : decode cX10_film 108 = .ok (.iload_n 3, 1) := by decide +kernel
theorem dX10_film_109 : decode cX10_film 109 = .ok (.ireturn, 1) := by decide +kernel
theorem dX10_draws_0 : decode cX10_draws 0 = .ok (.iload_n 1, 1) := by decide +kernel
theorem dX10_draws_1 : decode cX10_draws 1 = .ok (.i2l, 1) := by decide +kernel
theorem dX10_draws_2 : decode cX10_draws 2 = .ok (.lconst 1, 1) := by decide +kernel
theorem dX10_draws_3 : decode cX10_draws 3 = .ok (.ladd, 1) := by decide +kernel
theorem dX10_draws_4 : decode cX10_draws 4 = .ok (.lstore_n 3, 1) := by decide +kernel
theorem dX10_draws_5 : decode cX10_draws 5 = .ok (.aload_n 0, 1) := by decide +kernel
theorem dX10_draws_6 : decode cX10_draws 6 = .ok (.getfield 139, 3) := by decide +kernel
theorem dX10_draws_9 : decode cX10_draws 9 = .ok (.istore 5, 2) := by decide +kernel
theorem dX10_draws_11 : decode cX10_draws 11 = .ok (.iload 5, 2) := by decide +kernel
theorem dX10_draws_13 : decode cX10_draws 13 = .ok (.aload_n 0, 1) := by decide +kernel
theorem dX10_draws_14 : decode cX10_draws 14 = .ok (.getfield 139, 3) := by decide +kernel
theorem dX10_draws_17 : decode cX10_draws 17 = .ok (.iload_n 2, 1) := by decide +kernel
theorem dX10_draws_18 : decode cX10_draws 18 = .ok (.iadd, 1) := by decide +kernel
theorem dX10_draws_19 : decode cX10_draws 19 = .ok (.if_icmp .ge 35, 3) := by decide +kernel
theorem dX10_draws_22 : decode cX10_draws 22 = .ok (.lload_n 3, 1) := by decide +kernel
theorem dX10_draws_23 : decode cX10_draws 23 = .ok (.ldc2_w 356, 3) := by decide +kernel
theorem dX10_draws_26 : decode cX10_draws 26 = .ok (.lmul, 1) := by decide +kernel
theorem dX10_draws_27 : decode cX10_draws 27 = .ok (.ldc2_w 358, 3) := by decide +kernel
theorem dX10_draws_30 : decode cX10_draws 30 = .ok (.lrem, 1) := by decide +kernel
theorem dX10_draws_31 : decode cX10_draws 31 = .ok (.lstore_n 3, 1) := by decide +kernel
theorem dX10_draws_32 : decode cX10_draws 32 = .ok (.aload_n 0, 1) := by decide +kernel
theorem dX10_draws_33 : decode cX10_draws 33 = .ok (.getfield 100, 3) := by decide +kernel
theorem dX10_draws_36 : decode cX10_draws 36 = .ok (.iload 5, 2) := by decide +kernel
theorem dX10_draws_38 : decode cX10_draws 38 = .ok (.lload_n 3, 1) := by decide +kernel
theorem dX10_draws_39 : decode cX10_draws 39 = .ok (.ldc2_w 360, 3) := by decide +kernel
theorem dX10_draws_42 : decode cX10_draws 42 = .ok (.lrem, 1) := by decide +kernel
theorem dX10_draws_43 : decode cX10_draws 43 = .ok (.l2i, 1) := by decide +kernel
theorem dX10_draws_44 : decode cX10_draws 44 = .ok (.bipush 20, 2) := by decide +kernel
theorem dX10_draws_46 : decode cX10_draws 46 = .ok (.isub, 1) := by decide +kernel
theorem dX10_draws_47 : decode cX10_draws 47 = .ok (.iastore, 1) := by decide +kernel
theorem dX10_draws_48 : decode cX10_draws 48 = .ok (.iinc 5 1, 3) := by decide +kernel
theorem dX10_draws_51 : decode cX10_draws 51 = .ok (.goto (-40), 3) := by decide +kernel
theorem dX10_draws_54 : decode cX10_draws 54 = .ok (.aload_n 0, 1) := by decide +kernel
theorem dX10_draws_55 : decode cX10_draws 55 = .ok (.iconst 1, 1) := by decide +kernel
theorem dX10_draws_56 : decode cX10_draws 56 = .ok (.putfield 239, 3) := by decide +kernel
theorem dX10_draws_59 : decode cX10_draws 59 = .ok (.aload_n 0, 1) := by decide +kernel
theorem dX10_draws_60 : decode cX10_draws 60 = .ok (.iload_n 2, 1) := by decide +kernel
theorem dX10_draws_61 : decode cX10_draws 61 = .ok (.invokevirtual 294, 3) := by decide +kernel
theorem dX10_draws_64 : decode cX10_draws 64 = .ok (.aload_n 0, 1) := by decide +kernel
theorem dX10_draws_65 : decode cX10_draws 65 = .ok (.iconst 0, 1) := by decide +kernel
theorem dX10_draws_66 : decode cX10_draws 66 = .ok (.putfield 239, 3) := by decide +kernel
theorem dX10_draws_69 : decode cX10_draws 69 = .ok (.return_, 1) := by decide +kernel
theorem dX10_drawn_0 : decode cX10_drawn 0 = .ok (.aload_n 0, 1) := by decide +kernel
theorem dX10_drawn_1 : decode cX10_drawn 1 = .ok (.iload_n 3, 1) := by decide +kernel
theorem dX10_drawn_2 : decode cX10_drawn 2 = .ok (.invokevirtual 236, 3) := by decide +kernel
theorem dX10_drawn_5 : decode cX10_drawn 5 = .ok (.ifCond .ne 6, 3) := by decide +kernel
theorem dX10_drawn_8 : decode cX10_drawn 8 = .ok (.bipush (-5), 2) := by decide +kernel
theorem dX10_drawn_10 : decode cX10_drawn 10 = .ok (.ireturn, 1) := by decide +kernel
theorem dX10_drawn_11 : decode cX10_drawn 11 = .ok (.iload_n 1, 1) := by decide +kernel
theorem dX10_drawn_12 : decode cX10_drawn 12 = .ok (.iconst 0, 1) := by decide +kernel
theorem dX10_drawn_13 : decode cX10_drawn 13 = .ok (.ldc_w 362, 3) := by decide +kernel
theorem dX10_drawn_16 : decode cX10_drawn 16 = .ok (.invokestatic 132, 3) := by decide +kernel
theorem dX10_drawn_19 : decode cX10_drawn 19 = .ok (.ifCond .eq 21, 3) := by decide +kernel
theorem dX10_drawn_22 : decode cX10_drawn 22 = .ok (.aload_n 0, 1) := by decide +kernel
theorem dX10_drawn_23 : decode cX10_drawn 23 = .ok (.iload_n 2, 1) := by decide +kernel
theorem dX10_drawn_24 : decode cX10_drawn 24 = .ok (.invokevirtual 291, 3) := by decide +kernel
theorem dX10_drawn_27 : decode cX10_drawn 27 = .ok (.ifCond .eq 13, 3) := by decide +kernel
theorem dX10_drawn_30 : decode cX10_drawn 30 = .ok (.iload 4, 2) := by decide +kernel
theorem dX10_drawn_32 : decode cX10_drawn 32 = .ok (.iconst 0, 1) := by decide +kernel
theorem dX10_drawn_33 : decode cX10_drawn 33 = .ok (.iconst 2, 1) := by decide +kernel
theorem dX10_drawn_34 : decode cX10_drawn 34 = .ok (.invokestatic 132, 3) := by decide +kernel
theorem dX10_drawn_37 : decode cX10_drawn 37 = .ok (.ifCond .ne 6, 3) := by decide +kernel
theorem dX10_drawn_40 : decode cX10_drawn 40 = .ok (.bipush (-7), 2) := by decide +kernel
theorem dX10_drawn_42 : decode cX10_drawn 42 = .ok (.ireturn, 1) := by decide +kernel
theorem dX10_drawn_43 : decode cX10_drawn 43 = .ok (.aload_n 0, 1) := by decide +kernel
theorem dX10_drawn_44 : decode cX10_drawn 44 = .ok (.iload_n 1, 1) := by decide +kernel
theorem dX10_drawn_45 : decode cX10_drawn 45 = .ok (.iload_n 2, 1) := by decide +kernel
theorem dX10_drawn_46 : decode cX10_drawn 46 = .ok (.invokevirtual 363, 3) := by decide +kernel
theorem dX10_drawn_49 : decode cX10_drawn 49 = .ok (.iload 4, 2) := by decide +kernel
theorem dX10_drawn_51 : decode cX10_drawn 51 = .ok (.ifCond .ne 12, 3) := by decide +kernel
theorem dX10_drawn_54 : decode cX10_drawn 54 = .ok (.aload_n 0, 1) := by decide +kernel
theorem dX10_drawn_55 : decode cX10_drawn 55 = .ok (.getfield 103, 3) := by decide +kernel
theorem dX10_drawn_58 : decode cX10_drawn 58 = .ok (.iload_n 3, 1) := by decide +kernel
theorem dX10_drawn_59 : decode cX10_drawn 59 = .ok (.iaload, 1) := by decide +kernel
theorem dX10_drawn_60 : decode cX10_drawn 60 = .ok (.goto 24, 3) := by decide +kernel
theorem dX10_drawn_63 : decode cX10_drawn 63 = .ok (.iload 4, 2) := by decide +kernel
theorem dX10_drawn_65 : decode cX10_drawn 65 = .ok (.iconst 1, 1) := by decide +kernel
theorem dX10_drawn_66 : decode cX10_drawn 66 = .ok (.if_icmp .ne 12, 3) := by decide +kernel
theorem dX10_drawn_69 : decode cX10_drawn 69 = .ok (.aload_n 0, 1) := by decide +kernel
theorem dX10_drawn_70 : decode cX10_drawn 70 = .ok (.getfield 106, 3) := by decide +kernel
theorem dX10_drawn_73 : decode cX10_drawn 73 = .ok (.iload_n 3, 1) := by decide +kernel
theorem dX10_drawn_74 : decode cX10_drawn 74 = .ok (.iaload, 1) := by decide +kernel
theorem dX10_drawn_75 : decode cX10_drawn 75 = .ok (.goto 9, 3) := by decide +kernel
theorem dX10_drawn_78 : decode cX10_drawn 78 = .ok (.aload_n 0, 1) := by decide +kernel
theorem dX10_drawn_79 : decode cX10_drawn 79 = .ok (.getfield 109, 3) := by decide +kernel
theorem dX10_drawn_82 : decode cX10_drawn 82 = .ok (.iload_n 3, 1) := by decide +kernel
theorem dX10_drawn_83 : decode cX10_drawn 83 = .ok (.iaload, 1) := by decide +kernel
theorem dX10_drawn_84 : decode cX10_drawn 84 = .ok (.ireturn, 1) := by decide +kernel
theorem dX10_chance_0 : decode cX10_chance 0 = .ok (.aload_n 0, 1) := by decide +kernel
theorem dX10_chance_1 : decode cX10_chance 1 = .ok (.iload_n 1, 1) := by decide +kernel
theorem dX10_chance_2 : decode cX10_chance 2 = .ok (.invokevirtual 236, 3) := by decide +kernel
theorem dX10_chance_5 : decode cX10_chance 5 = .ok (.ifCond .eq 56, 3) := by decide +kernel
theorem dX10_chance_8 : decode cX10_chance 8 = .ok (.iload_n 2, 1) := by decide +kernel
theorem dX10_chance_9 : decode cX10_chance 9 = .ok (.iconst 0, 1) := by decide +kernel
theorem dX10_chance_10 : decode cX10_chance 10 = .ok (.ldc_w 362, 3) := by decide +kernel
theorem dX10_chance_13 : decode cX10_chance 13 = .ok (.invokestatic 132, 3) := by decide +kernel
theorem dX10_chance_16 : decode cX10_chance 16 = .ok (.ifCond .eq 45, 3) := by decide +kernel
theorem dX10_chance_19 : decode cX10_chance 19 = .ok (.iload_n 3, 1) := by decide +kernel
theorem dX10_chance_20 : decode cX10_chance 20 = .ok (.ifCond .lt 41, 3) := by decide +kernel
theorem dX10_chance_23 : decode cX10_chance 23 = .ok (.iload_n 3, 1) := by decide +kernel
theorem dX10_chance_24 : decode cX10_chance 24 = .ok (.bipush 100, 2) := by decide +kernel
theorem dX10_chance_26 : decode cX10_chance 26 = .ok (.idiv, 1) := by decide +kernel
theorem dX10_chance_27 : decode cX10_chance 27 = .ok (.iconst 1, 1) := by decide +kernel
theorem dX10_chance_28 : decode cX10_chance 28 = .ok (.bipush 20, 2) := by decide +kernel
theorem dX10_chance_30 : decode cX10_chance 30 = .ok (.invokestatic 132, 3) := by decide +kernel
theorem dX10_chance_33 : decode cX10_chance 33 = .ok (.ifCond .eq 28, 3) := by decide +kernel
theorem dX10_chance_36 : decode cX10_chance 36 = .ok (.aload_n 0, 1) := by decide +kernel
theorem dX10_chance_37 : decode cX10_chance 37 = .ok (.iload_n 3, 1) := by decide +kernel
theorem dX10_chance_38 : decode cX10_chance 38 = .ok (.bipush 100, 2) := by decide +kernel
theorem dX10_chance_40 : decode cX10_chance 40 = .ok (.irem, 1) := by decide +kernel
theorem dX10_chance_41 : decode cX10_chance 41 = .ok (.invokevirtual 291, 3) := by decide +kernel
theorem dX10_chance_44 : decode cX10_chance 44 = .ok (.ifCond .eq 17, 3) := by decide +kernel
theorem dX10_chance_47 : decode cX10_chance 47 = .ok (.iload 4, 2) := by decide +kernel
theorem dX10_chance_49 : decode cX10_chance 49 = .ok (.iconst 0, 1) := by decide +kernel
theorem dX10_chance_50 : decode cX10_chance 50 = .ok (.iconst 1, 1) := by decide +kernel
theorem dX10_chance_51 : decode cX10_chance 51 = .ok (.invokestatic 132, 3) := by decide +kernel
theorem dX10_chance_54 : decode cX10_chance 54 = .ok (.ifCond .eq 7, 3) := by decide +kernel
theorem dX10_chance_57 : decode cX10_chance 57 = .ok (.iconst 1, 1) := by decide +kernel
theorem dX10_chance_58 : decode cX10_chance 58 = .ok (.goto 4, 3) := by decide +kernel
theorem dX10_chance_61 : decode cX10_chance 61 = .ok (.iconst 0, 1) := by decide +kernel
theorem dX10_chance_62 : decode cX10_chance 62 = .ok (.istore 5, 2) := by decide +kernel
theorem dX10_chance_64 : decode cX10_chance 64 = .ok (.iload 5, 2) := by decide +kernel
theorem dX10_chance_66 : decode cX10_chance 66 = .ok (.ifCond .ne 7, 3) := by decide +kernel
theorem dX10_chance_69 : decode cX10_chance 69 = .ok (.ldc2_w 327, 3) := by decide +kernel
theorem dX10_chance_72 : decode cX10_chance 72 = .ok (.lreturn, 1) := by decide +kernel
theorem dX10_chance_73 : decode cX10_chance 73 = .ok (.lconst 0, 1) := by decide +kernel
theorem dX10_chance_74 : decode cX10_chance 74 = .ok (.lstore 6, 2) := by decide +kernel
theorem dX10_chance_76 : decode cX10_chance 76 = .ok (.iconst 0, 1) := by decide +kernel
theorem dX10_chance_77 : decode cX10_chance 77 = .ok (.istore 8, 2) := by decide +kernel
theorem dX10_chance_79 : decode cX10_chance 79 = .ok (.iload 8, 2) := by decide +kernel
theorem dX10_chance_81 : decode cX10_chance 81 = .ok (.iload_n 3, 1) := by decide +kernel
theorem dX10_chance_82 : decode cX10_chance 82 = .ok (.bipush 100, 2) := by decide +kernel
theorem dX10_chance_84 : decode cX10_chance 84 = .ok (.idiv, 1) := by decide +kernel
theorem dX10_chance_85 : decode cX10_chance 85 = .ok (.if_icmp .ge 40, 3) := by decide +kernel
theorem dX10_chance_88 : decode cX10_chance 88 = .ok (.aload_n 0, 1) := by decide +kernel
theorem dX10_chance_89 : decode cX10_chance 89 = .ok (.iload_n 2, 1) := by decide +kernel
theorem dX10_chance_90 : decode cX10_chance 90 = .ok (.iload 8, 2) := by decide +kernel
theorem dX10_chance_92 : decode cX10_chance 92 = .ok (.iadd, 1) := by decide +kernel
theorem dX10_chance_93 : decode cX10_chance 93 = .ok (.iload_n 3, 1) := by decide +kernel
theorem dX10_chance_94 : decode cX10_chance 94 = .ok (.bipush 100, 2) := by decide +kernel
theorem dX10_chance_96 : decode cX10_chance 96 = .ok (.irem, 1) := by decide +kernel
theorem dX10_chance_97 : decode cX10_chance 97 = .ok (.invokevirtual 363, 3) := by decide +kernel
theorem dX10_chance_100 : decode cX10_chance 100 = .ok (.lload 6, 2) := by decide +kernel
theorem dX10_chance_102 : decode cX10_chance 102 = .ok (.aload_n 0, 1) := by decide +kernel
theorem dX10_chance_103 : decode cX10_chance 103 = .ok (.getfield 106, 3) := by decide +kernel
theorem dX10_chance_106 : decode cX10_chance 106 = .ok (.iload_n 1, 1) := by decide +kernel
theorem dX10_chance_107 : decode cX10_chance 107 = .ok (.iaload, 1) := by decide +kernel
theorem dX10_chance_108 : decode cX10_chance 108 = .ok (.ifCond .ne 7, 3) := by decide +kernel
theorem dX10_chance_111 : decode cX10_chance 111 = .ok (.lconst 1, 1) := by decide +kernel
theorem dX10_chance_112 : decode cX10_chance 112 = .ok (.goto 4, 3) := by decide +kernel
theorem dX10_chance_115 : decode cX10_chance 115 = .ok (.lconst 0, 1) := by decide +kernel
theorem dX10_chance_116 : decode cX10_chance 116 = .ok (.ladd, 1) := by decide +kernel
theorem dX10_chance_117 : decode cX10_chance 117 = .ok (.lstore 6, 2) := by decide +kernel
theorem dX10_chance_119 : decode cX10_chance 119 = .ok (.iinc 8 1, 3) := by decide +kernel
theorem dX10_chance_122 : decode cX10_chance 122 = .ok (.goto (-43), 3) := by decide +kernel
theorem dX10_chance_125 : decode cX10_chance 125 = .ok (.lload 6, 2) := by decide +kernel
theorem dX10_chance_127 : decode cX10_chance 127 = .ok (.iload_n 3, 1) := by decide +kernel
theorem dX10_chance_128 : decode cX10_chance 128 = .ok (.bipush 100, 2) := by decide +kernel
theorem dX10_chance_130 : decode cX10_chance 130 = .ok (.idiv, 1) := by decide +kernel
theorem dX10_chance_131 : decode cX10_chance 131 = .ok (.i2l, 1) := by decide +kernel
theorem dX10_chance_132 : decode cX10_chance 132 = .ok (.iload 4, 2) := by decide +kernel
theorem dX10_chance_134 : decode cX10_chance 134 = .ok (.invokestatic 340, 3) := by decide +kernel
theorem dX10_chance_137 : decode cX10_chance 137 = .ok (.lreturn, 1) := by decide +kernel
theorem dX10_image_0 : decode cX10_image 0 = .ok (.aload_n 0, 1) := by decide +kernel
theorem dX10_image_1 : decode cX10_image 1 = .ok (.iconst 1, 1) := by decide +kernel
theorem dX10_image_2 : decode cX10_image 2 = .ok (.putfield 367, 3) := by decide +kernel
theorem dX10_image_5 : decode cX10_image 5 = .ok (.aload_n 0, 1) := by decide +kernel
theorem dX10_image_6 : decode cX10_image 6 = .ok (.aload_n 0, 1) := by decide +kernel
theorem dX10_image_7 : decode cX10_image 7 = .ok (.getfield 139, 3) := by decide +kernel
theorem dX10_image_10 : decode cX10_image 10 = .ok (.putfield 370, 3) := by decide +kernel
theorem dX10_image_13 : decode cX10_image 13 = .ok (.aload_n 0, 1) := by decide +kernel
theorem dX10_image_14 : decode cX10_image 14 = .ok (.aload_n 0, 1) := by decide +kernel
theorem dX10_image_15 : decode cX10_image 15 = .ok (.getfield 136, 3) := by decide +kernel
theorem dX10_image_18 : decode cX10_image 18 = .ok (.putfield 373, 3) := by decide +kernel
theorem dX10_image_21 : decode cX10_image 21 = .ok (.aload_n 0, 1) := by decide +kernel
theorem dX10_image_22 : decode cX10_image 22 = .ok (.aload_n 0, 1) := by decide +kernel
theorem dX10_image_23 : decode cX10_image 23 = .ok (.getfield 160, 3) := by decide +kernel
theorem dX10_image_26 : decode cX10_image 26 = .ok (.putfield 376, 3) := by decide +kernel
theorem dX10_image_29 : decode cX10_image 29 = .ok (.iconst 0, 1) := by decide +kernel
theorem dX10_image_30 : decode cX10_image 30 = .ok (.istore_n 1, 1) := by decide +kernel
theorem dX10_image_31 : decode cX10_image 31 = .ok (.iload_n 1, 1) := by decide +kernel
theorem dX10_image_32 : decode cX10_image 32 = .ok (.bipush 6, 2) := by decide +kernel
theorem dX10_image_34 : decode cX10_image 34 = .ok (.if_icmp .ge 33, 3) := by decide +kernel
theorem dX10_image_37 : decode cX10_image 37 = .ok (.aload_n 0, 1) := by decide +kernel
theorem dX10_image_38 : decode cX10_image 38 = .ok (.getfield 64, 3) := by decide +kernel
theorem dX10_image_41 : decode cX10_image 41 = .ok (.iload_n 1, 1) := by decide +kernel
theorem dX10_image_42 : decode cX10_image 42 = .ok (.aload_n 0, 1) := by decide +kernel
theorem dX10_image_43 : decode cX10_image 43 = .ok (.getfield 43, 3) := by decide +kernel
theorem dX10_image_46 : decode cX10_image 46 = .ok (.iload_n 1, 1) := by decide +kernel
theorem dX10_image_47 : decode cX10_image 47 = .ok (.iaload, 1) := by decide +kernel
theorem dX10_image_48 : decode cX10_image 48 = .ok (.iastore, 1) := by decide +kernel
theorem dX10_image_49 : decode cX10_image 49 = .ok (.aload_n 0, 1) := by decide +kernel
theorem dX10_image_50 : decode cX10_image 50 = .ok (.getfield 67, 3) := by decide +kernel
theorem dX10_image_53 : decode cX10_image 53 = .ok (.iload_n 1, 1) := by decide +kernel
theorem dX10_image_54 : decode cX10_image 54 = .ok (.aload_n 0, 1) := by decide +kernel
theorem dX10_image_55 : decode cX10_image 55 = .ok (.getfield 46, 3) := by decide +kernel
theorem dX10_image_58 : decode cX10_image 58 = .ok (.iload_n 1, 1) := by decide +kernel
theorem dX10_image_59 : decode cX10_image 59 = .ok (.iaload, 1) := by decide +kernel
theorem dX10_image_60 : decode cX10_image 60 = .ok (.iastore, 1) := by decide +kernel
theorem dX10_image_61 : decode cX10_image 61 = .ok (.iinc 1 1, 3) := by decide +kernel
theorem dX10_image_64 : decode cX10_image 64 = .ok (.goto (-33), 3) := by decide +kernel
theorem dX10_image_67 : decode cX10_image 67 = .ok (.iconst 0, 1) := by decide +kernel
theorem dX10_image_68 : decode cX10_image 68 = .ok (.istore_n 1, 1) := by decide +kernel
theorem dX10_image_69 : decode cX10_image 69 = .ok (.iload_n 1, 1) := by decide +kernel
theorem dX10_image_70 : decode cX10_image 70 = .ok (.bipush 20, 2) := by decide +kernel
theorem dX10_image_72 : decode cX10_image 72 = .ok (.if_icmp .ge 33, 3) := by decide +kernel
theorem dX10_image_75 : decode cX10_image 75 = .ok (.aload_n 0, 1) := by decide +kernel
theorem dX10_image_76 : decode cX10_image 76 = .ok (.getfield 70, 3) := by decide +kernel
theorem dX10_image_79 : decode cX10_image 79 = .ok (.iload_n 1, 1) := by decide +kernel
theorem dX10_image_80 : decode cX10_image 80 = .ok (.aload_n 0, 1) := by decide +kernel
theorem dX10_image_81 : decode cX10_image 81 = .ok (.getfield 49, 3) := by decide +kernel
theorem dX10_image_84 : decode cX10_image 84 = .ok (.iload_n 1, 1) := by decide +kernel
theorem dX10_image_85 : decode cX10_image 85 = .ok (.iaload, 1) := by decide +kernel
theorem dX10_image_86 : decode cX10_image 86 = .ok (.iastore, 1) := by decide +kernel
theorem dX10_image_87 : decode cX10_image 87 = .ok (.aload_n 0, 1) := by decide +kernel
theorem dX10_image_88 : decode cX10_image 88 = .ok (.getfield 73, 3) := by decide +kernel
theorem dX10_image_91 : decode cX10_image 91 = .ok (.iload_n 1, 1) := by decide +kernel
theorem dX10_image_92 : decode cX10_image 92 = .ok (.aload_n 0, 1) := by decide +kernel
theorem dX10_image_93 : decode cX10_image 93 = .ok (.getfield 52, 3) := by decide +kernel
theorem dX10_image_96 : decode cX10_image 96 = .ok (.iload_n 1, 1) := by decide +kernel
theorem dX10_image_97 : decode cX10_image 97 = .ok (.iaload, 1) := by decide +kernel
theorem dX10_image_98 : decode cX10_image 98 = .ok (.iastore, 1) := by decide +kernel
theorem dX10_image_99 : decode cX10_image 99 = .ok (.iinc 1 1, 3) := by decide +kernel
theorem dX10_image_102 : decode cX10_image 102 = .ok (.goto (-33), 3) := by decide +kernel
theorem dX10_image_105 : decode cX10_image 105 = .ok (.aload_n 0, 1) := by decide +kernel
theorem dX10_image_106 : decode cX10_image 106 = .ok (.getfield 136, 3) := by decide +kernel
theorem dX10_image_109 : decode cX10_image 109 = .ok (.ireturn, 1) := by decide +kernel
theorem dX10_back_0 : decode cX10_back 0 = .ok (.aload_n 0, 1) := by decide +kernel
theorem dX10_back_1 : decode cX10_back 1 = .ok (.getfield 367, 3) := by decide +kernel
theorem dX10_back_4 : decode cX10_back 4 = .ok (.ifCond .ne 6, 3) := by decide +kernel
theorem dX10_back_7 : decode cX10_back 7 = .ok (.bipush (-3), 2) := by decide +kernel
theorem dX10_back_9 : decode cX10_back 9 = .ok (.ireturn, 1) := by decide +kernel
theorem dX10_back_10 : decode cX10_back 10 = .ok (.aload_n 0, 1) := by decide +kernel
theorem dX10_back_11 : decode cX10_back 11 = .ok (.aload_n 0, 1) := by decide +kernel
theorem dX10_back_12 : decode cX10_back 12 = .ok (.getfield 370, 3) := by decide +kernel
theorem dX10_back_15 : decode cX10_back 15 = .ok (.putfield 139, 3) := by decide +kernel
theorem dX10_back_18 : decode cX10_back 18 = .ok (.aload_n 0, 1) := by decide +kernel
theorem dX10_back_19 : decode cX10_back 19 = .ok (.aload_n 0, 1) := by decide +kernel
theorem dX10_back_20 : decode cX10_back 20 = .ok (.getfield 373, 3) := by decide +kernel
theorem dX10_back_23 : decode cX10_back 23 = .ok (.putfield 136, 3) := by decide +kernel
theorem dX10_back_26 : decode cX10_back 26 = .ok (.aload_n 0, 1) := by decide +kernel
theorem dX10_back_27 : decode cX10_back 27 = .ok (.aload_n 0, 1) := by decide +kernel
theorem dX10_back_28 : decode cX10_back 28 = .ok (.getfield 376, 3) := by decide +kernel
theorem dX10_back_31 : decode cX10_back 31 = .ok (.putfield 160, 3) := by decide +kernel
theorem dX10_back_34 : decode cX10_back 34 = .ok (.iconst 0, 1) := by decide +kernel
theorem dX10_back_35 : decode cX10_back 35 = .ok (.istore_n 1, 1) := by decide +kernel
theorem dX10_back_36 : decode cX10_back 36 = .ok (.iload_n 1, 1) := by decide +kernel
theorem dX10_back_37 : decode cX10_back 37 = .ok (.bipush 6, 2) := by decide +kernel
theorem dX10_back_39 : decode cX10_back 39 = .ok (.if_icmp .ge 33, 3) := by decide +kernel
theorem dX10_back_42 : decode cX10_back 42 = .ok (.aload_n 0, 1) := by decide +kernel
theorem dX10_back_43 : decode cX10_back 43 = .ok (.getfield 43, 3) := by decide +kernel
theorem dX10_back_46 : decode cX10_back 46 = .ok (.iload_n 1, 1) := by decide +kernel
theorem dX10_back_47 : decode cX10_back 47 = .ok (.aload_n 0, 1) := by decide +kernel
theorem dX10_back_48 : decode cX10_back 48 = .ok (.getfield 64, 3) := by decide +kernel
theorem dX10_back_51 : decode cX10_back 51 = .ok (.iload_n 1, 1) := by decide +kernel
theorem dX10_back_52 : decode cX10_back 52 = .ok (.iaload, 1) := by decide +kernel
theorem dX10_back_53 : decode cX10_back 53 = .ok (.iastore, 1) := by decide +kernel
theorem dX10_back_54 : decode cX10_back 54 = .ok (.aload_n 0, 1) := by decide +kernel
theorem dX10_back_55 : decode cX10_back 55 = .ok (.getfield 46, 3) := by decide +kernel
theorem dX10_back_58 : decode cX10_back 58 = .ok (.iload_n 1, 1) := by decide +kernel
theorem dX10_back_59 : decode cX10_back 59 = .ok (.aload_n 0, 1) := by decide +kernel
theorem dX10_back_60 : decode cX10_back 60 = .ok (.getfield 67, 3) := by decide +kernel
theorem dX10_back_63 : decode cX10_back 63 = .ok (.iload_n 1, 1) := by decide +kernel
theorem dX10_back_64 : decode cX10_back 64 = .ok (.iaload, 1) := by decide +kernel
theorem dX10_back_65 : decode cX10_back 65 = .ok (.iastore, 1) := by decide +kernel
theorem dX10_back_66 : decode cX10_back 66 = .ok (.iinc 1 1, 3) := by decide +kernel
theorem dX10_back_69 : decode cX10_back 69 = .ok (.goto (-33), 3) := by decide +kernel
theorem dX10_back_72 : decode cX10_back 72 = .ok (.iconst 0, 1) := by decide +kernel
theorem dX10_back_73 : decode cX10_back 73 = .ok (.istore_n 1, 1) := by decide +kernel
theorem dX10_back_74 : decode cX10_back 74 = .ok (.iload_n 1, 1) := by decide +kernel
theorem dX10_back_75 : decode cX10_back 75 = .ok (.bipush 20, 2) := by decide +kernel
theorem dX10_back_77 : decode cX10_back 77 = .ok (.if_icmp .ge 33, 3) := by decide +kernel
theorem dX10_back_80 : decode cX10_back 80 = .ok (.aload_n 0, 1) := by decide +kernel
theorem dX10_back_81 : decode cX10_back 81 = .ok (.getfield 49, 3) := by decide +kernel
theorem dX10_back_84 : decode cX10_back 84 = .ok (.iload_n 1, 1) := by decide +kernel
theorem dX10_back_85 : decode cX10_back 85 = .ok (.aload_n 0, 1) := by decide +kernel
theorem dX10_back_86 : decode cX10_back 86 = .ok (.getfield 70, 3) := by decide +kernel
theorem dX10_back_89 : decode cX10_back 89 = .ok (.iload_n 1, 1) := by decide +kernel
theorem dX10_back_90 : decode cX10_back 90 = .ok (.iaload, 1) := by decide +kernel
theorem dX10_back_91 : decode cX10_back 91 = .ok (.iastore, 1) := by decide +kernel
theorem dX10_back_92 : decode cX10_back 92 = .ok (.aload_n 0, 1) := by decide +kernel
theorem dX10_back_93 : decode cX10_back 93 = .ok (.getfield 52, 3) := by decide +kernel
theorem dX10_back_96 : decode cX10_back 96 = .ok (.iload_n 1, 1) := by decide +kernel
theorem dX10_back_97 : decode cX10_back 97 = .ok (.aload_n 0, 1) := by decide +kernel
theorem dX10_back_98 : decode cX10_back 98 = .ok (.getfield 73, 3) := by decide +kernel
theorem dX10_back_101 : decode cX10_back 101 = .ok (.iload_n 1, 1) := by decide +kernel
theorem dX10_back_102 : decode cX10_back 102 = .ok (.iaload, 1) := by decide +kernel
theorem dX10_back_103 : decode cX10_back 103 = .ok (.iastore, 1) := by decide +kernel
theorem dX10_back_104 : decode cX10_back 104 = .ok (.iinc 1 1, 3) := by decide +kernel
theorem dX10_back_107 : decode cX10_back 107 = .ok (.goto (-33), 3) := by decide +kernel
theorem dX10_back_110 : decode cX10_back 110 = .ok (.aload_n 0, 1) := by decide +kernel
theorem dX10_back_111 : decode cX10_back 111 = .ok (.getfield 136, 3) := by decide +kernel
theorem dX10_back_114 : decode cX10_back 114 = .ok (.ireturn, 1) := by decide +kernel
theorem dX10_sheet_0 : decode cX10_sheet 0 = .ok (.iload_n 1, 1) := by decide +kernel
theorem dX10_sheet_1 : decode cX10_sheet 1 = .ok (.iconst 0, 1) := by decide +kernel
theorem dX10_sheet_2 : decode cX10_sheet 2 = .ok (.iconst 3, 1) := by decide +kernel
theorem dX10_sheet_3 : decode cX10_sheet 3 = .ok (.invokestatic 132, 3) := by decide +kernel
theorem dX10_sheet_6 : decode cX10_sheet 6 = .ok (.ifCond .eq 23, 3) := by decide +kernel
theorem dX10_sheet_9 : decode cX10_sheet 9 = .ok (.iload_n 2, 1) := by decide +kernel
theorem dX10_sheet_10 : decode cX10_sheet 10 = .ok (.iconst (-1), 1) := by decide +kernel
theorem dX10_sheet_11 : decode cX10_sheet 11 = .ok (.iconst 2, 1) := by decide +kernel
theorem dX10_sheet_12 : decode cX10_sheet 12 = .ok (.invokestatic 132, 3) := by decide +kernel
theorem dX10_sheet_15 : decode cX10_sheet 15 = .ok (.ifCond .eq 14, 3) := by decide +kernel
theorem dX10_sheet_18 : decode cX10_sheet 18 = .ok (.iload_n 2, 1) := by decide +kernel
theorem dX10_sheet_19 : decode cX10_sheet 19 = .ok (.iconst (-1), 1) := by decide +kernel
theorem dX10_sheet_20 : decode cX10_sheet 20 = .ok (.if_icmp .eq 12, 3) := by decide +kernel
theorem dX10_sheet_23 : decode cX10_sheet 23 = .ok (.iload_n 3, 1) := by decide +kernel
theorem dX10_sheet_24 : decode cX10_sheet 24 = .ok (.bipush 40, 2) := by decide +kernel
theorem dX10_sheet_26 : decode cX10_sheet 26 = .ok (.if_icmp .le 6, 3) := by decide +kernel
theorem dX10_sheet_29 : decode cX10_sheet 29 = .ok (.bipush (-2), 2) := by decide +kernel
theorem dX10_sheet_31 : decode cX10_sheet 31 = .ok (.ireturn, 1) := by decide +kernel
theorem dX10_sheet_32 : decode cX10_sheet 32 = .ok (.iload_n 2, 1) := by decide +kernel
theorem dX10_sheet_33 : decode cX10_sheet 33 = .ok (.iconst (-1), 1) := by decide +kernel
theorem dX10_sheet_34 : decode cX10_sheet 34 = .ok (.if_icmp .eq 10, 3) := by decide +kernel
theorem dX10_sheet_37 : decode cX10_sheet 37 = .ok (.iload_n 3, 1) := by decide +kernel
theorem dX10_sheet_38 : decode cX10_sheet 38 = .ok (.ifCond .ge 6, 3) := by decide +kernel
theorem dX10_sheet_41 : decode cX10_sheet 41 = .ok (.bipush (-14), 2) := by decide +kernel
theorem dX10_sheet_43 : decode cX10_sheet 43 = .ok (.ireturn, 1) := by decide +kernel
theorem dX10_sheet_44 : decode cX10_sheet 44 = .ok (.aload_n 0, 1) := by decide +kernel
theorem dX10_sheet_45 : decode cX10_sheet 45 = .ok (.getfield 76, 3) := by decide +kernel
theorem dX10_sheet_48 : decode cX10_sheet 48 = .ok (.iload_n 1, 1) := by decide +kernel
theorem dX10_sheet_49 : decode cX10_sheet 49 = .ok (.iload_n 2, 1) := by decide +kernel
theorem dX10_sheet_50 : decode cX10_sheet 50 = .ok (.iastore, 1) := by decide +kernel
theorem dX10_sheet_51 : decode cX10_sheet 51 = .ok (.aload_n 0, 1) := by decide +kernel
theorem dX10_sheet_52 : decode cX10_sheet 52 = .ok (.getfield 79, 3) := by decide +kernel
theorem dX10_sheet_55 : decode cX10_sheet 55 = .ok (.iload_n 1, 1) := by decide +kernel
theorem dX10_sheet_56 : decode cX10_sheet 56 = .ok (.iload_n 2, 1) := by decide +kernel
theorem dX10_sheet_57 : decode cX10_sheet 57 = .ok (.iconst (-1), 1) := by decide +kernel
theorem dX10_sheet_58 : decode cX10_sheet 58 = .ok (.if_icmp .ne 7, 3) := by decide +kernel
theorem dX10_sheet_61 : decode cX10_sheet 61 = .ok (.iconst 0, 1) := by decide +kernel
theorem dX10_sheet_62 : decode cX10_sheet 62 = .ok (.goto 4, 3) := by decide +kernel
theorem dX10_sheet_65 : decode cX10_sheet 65 = .ok (.iload_n 3, 1) := by decide +kernel
theorem dX10_sheet_66 : decode cX10_sheet 66 = .ok (.iastore, 1) := by decide +kernel
theorem dX10_sheet_67 : decode cX10_sheet 67 = .ok (.iconst 0, 1) := by decide +kernel
theorem dX10_sheet_68 : decode cX10_sheet 68 = .ok (.istore 4, 2) := by decide +kernel
theorem dX10_sheet_70 : decode cX10_sheet 70 = .ok (.iload 4, 2) := by decide +kernel
theorem dX10_sheet_72 : decode cX10_sheet 72 = .ok (.bipush 40, 2) := by decide +kernel
theorem dX10_sheet_74 : decode cX10_sheet 74 = .ok (.if_icmp .ge 22, 3) := by decide +kernel
theorem dX10_sheet_77 : decode cX10_sheet 77 = .ok (.aload_n 0, 1) := by decide +kernel
theorem dX10_sheet_78 : decode cX10_sheet 78 = .ok (.getfield 82, 3) := by decide +kernel
theorem dX10_sheet_81 : decode cX10_sheet 81 = .ok (.bipush 40, 2) := by decide +kernel
theorem dX10_sheet_83 : decode cX10_sheet 83 = .ok (.iload_n 1, 1) := by decide +kernel
theorem dX10_sheet_84 : decode cX10_sheet 84 = .ok (.imul, 1) := by decide +kernel
theorem dX10_sheet_85 : decode cX10_sheet 85 = .ok (.iload 4, 2) := by decide +kernel
theorem dX10_sheet_87 : decode cX10_sheet 87 = .ok (.iadd, 1) := by decide +kernel
theorem dX10_sheet_88 : decode cX10_sheet 88 = .ok (.iconst 0, 1) := by decide +kernel
theorem dX10_sheet_89 : decode cX10_sheet 89 = .ok (.iastore, 1) := by decide +kernel
theorem dX10_sheet_90 : decode cX10_sheet 90 = .ok (.iinc 4 1, 3) := by decide +kernel
theorem dX10_sheet_93 : decode cX10_sheet 93 = .ok (.goto (-23), 3) := by decide +kernel
theorem dX10_sheet_96 : decode cX10_sheet 96 = .ok (.iconst 1, 1) := by decide +kernel
theorem dX10_sheet_97 : decode cX10_sheet 97 = .ok (.ireturn, 1) := by decide +kernel
theorem dX10_cell_0 : decode cX10_cell 0 = .ok (.iload_n 1, 1) := by decide +kernel
theorem dX10_cell_1 : decode cX10_cell 1 = .ok (.iconst 0, 1) := by decide +kernel
theorem dX10_cell_2 : decode cX10_cell 2 = .ok (.iconst 3, 1) := by decide +kernel
theorem dX10_cell_3 : decode cX10_cell 3 = .ok (.invokestatic 132, 3) := by decide +kernel
theorem dX10_cell_6 : decode cX10_cell 6 = .ok (.ifCond .ne 6, 3) := by decide +kernel
theorem dX10_cell_9 : decode cX10_cell 9 = .ok (.bipush (-2), 2) := by decide +kernel
theorem dX10_cell_11 : decode cX10_cell 11 = .ok (.ireturn, 1) := by decide +kernel
theorem dX10_cell_12 : decode cX10_cell 12 = .ok (.aload_n 0, 1) := by decide +kernel
theorem dX10_cell_13 : decode cX10_cell 13 = .ok (.getfield 76, 3) := by decide +kernel
theorem dX10_cell_16 : decode cX10_cell 16 = .ok (.iload_n 1, 1) := by decide +kernel
theorem dX10_cell_17 : decode cX10_cell 17 = .ok (.iaload, 1) := by decide +kernel
theorem dX10_cell_18 : decode cX10_cell 18 = .ok (.iconst (-1), 1) := by decide +kernel
theorem dX10_cell_19 : decode cX10_cell 19 = .ok (.if_icmp .ne 6, 3) := by decide +kernel
theorem dX10_cell_22 : decode cX10_cell 22 = .ok (.bipush (-11), 2) := by decide +kernel
theorem dX10_cell_24 : decode cX10_cell 24 = .ok (.ireturn, 1) := by decide +kernel
theorem dX10_cell_25 : decode cX10_cell 25 = .ok (.iload_n 2, 1) := by decide +kernel
theorem dX10_cell_26 : decode cX10_cell 26 = .ok (.iconst 0, 1) := by decide +kernel
theorem dX10_cell_27 : decode cX10_cell 27 = .ok (.aload_n 0, 1) := by decide +kernel
theorem dX10_cell_28 : decode cX10_cell 28 = .ok (.getfield 79, 3) := by decide +kernel
theorem dX10_cell_31 : decode cX10_cell 31 = .ok (.iload_n 1, 1) := by decide +kernel
theorem dX10_cell_32 : decode cX10_cell 32 = .ok (.iaload, 1) := by decide +kernel
theorem dX10_cell_33 : decode cX10_cell 33 = .ok (.iconst 1, 1) := by decide +kernel
theorem dX10_cell_34 : decode cX10_cell 34 = .ok (.isub, 1) := by decide +kernel
theorem dX10_cell_35 : decode cX10_cell 35 = .ok (.invokestatic 132, 3) := by decide +kernel
theorem dX10_cell_38 : decode cX10_cell 38 = .ok (.ifCond .ne 6, 3) := by decide +kernel
theorem dX10_cell_41 : decode cX10_cell 41 = .ok (.bipush (-12), 2) := by decide +kernel
theorem dX10_cell_43 : decode cX10_cell 43 = .ok (.ireturn, 1) := by decide +kernel
theorem dX10_cell_44 : decode cX10_cell 44 = .ok (.aload_n 0, 1) := by decide +kernel
theorem dX10_cell_45 : decode cX10_cell 45 = .ok (.getfield 82, 3) := by decide +kernel
theorem dX10_cell_48 : decode cX10_cell 48 = .ok (.bipush 40, 2) := by decide +kernel
theorem dX10_cell_50 : decode cX10_cell 50 = .ok (.iload_n 1, 1) := by decide +kernel
theorem dX10_cell_51 : decode cX10_cell 51 = .ok (.imul, 1) := by decide +kernel
theorem dX10_cell_52 : decode cX10_cell 52 = .ok (.iload_n 2, 1) := by decide +kernel
theorem dX10_cell_53 : decode cX10_cell 53 = .ok (.iadd, 1) := by decide +kernel
theorem dX10_cell_54 : decode cX10_cell 54 = .ok (.aload_n 0, 1) := by decide +kernel
theorem dX10_cell_55 : decode cX10_cell 55 = .ok (.getfield 76, 3) := by decide +kernel
theorem dX10_cell_58 : decode cX10_cell 58 = .ok (.iload_n 1, 1) := by decide +kernel
theorem dX10_cell_59 : decode cX10_cell 59 = .ok (.iaload, 1) := by decide +kernel
theorem dX10_cell_60 : decode cX10_cell 60 = .ok (.ifCond .ne 8, 3) := by decide +kernel
theorem dX10_cell_63 : decode cX10_cell 63 = .ok (.iload_n 3, 1) := by decide +kernel
theorem dX10_cell_64 : decode cX10_cell 64 = .ok (.i2b, 1) := by decide +kernel
theorem dX10_cell_65 : decode cX10_cell 65 = .ok (.goto 19, 3) := by decide +kernel
theorem dX10_cell_68 : decode cX10_cell 68 = .ok (.aload_n 0, 1) := by decide +kernel
theorem dX10_cell_69 : decode cX10_cell 69 = .ok (.getfield 76, 3) := by decide +kernel
theorem dX10_cell_72 : decode cX10_cell 72 = .ok (.iload_n 1, 1) := by decide +kernel
theorem dX10_cell_73 : decode cX10_cell 73 = .ok (.iaload, 1) := by decide +kernel
theorem dX10_cell_74 : decode cX10_cell 74 = .ok (.iconst 1, 1) := by decide +kernel
theorem dX10_cell_75 : decode cX10_cell 75 = .ok (.if_icmp .ne 8, 3) := by decide +kernel
theorem dX10_cell_78 : decode cX10_cell 78 = .ok (.iload_n 3, 1) := by decide +kernel
theorem dX10_cell_79 : decode cX10_cell 79 = .ok (.i2s, 1) := by decide +kernel
theorem dX10_cell_80 : decode cX10_cell 80 = .ok (.goto 4, 3) := by decide +kernel
theorem dX10_cell_83 : decode cX10_cell 83 = .ok (.iload_n 3, 1) := by decide +kernel
theorem dX10_cell_84 : decode cX10_cell 84 = .ok (.iastore, 1) := by decide +kernel
theorem dX10_cell_85 : decode cX10_cell 85 = .ok (.iconst 1, 1) := by decide +kernel
theorem dX10_cell_86 : decode cX10_cell 86 = .ok (.ireturn, 1) := by decide +kernel
theorem dX10_copy_0 : decode cX10_copy 0 = .ok (.iload_n 1, 1) := by decide +kernel
theorem dX10_copy_1 : decode cX10_copy 1 = .ok (.iconst 0, 1) := by decide +kernel
theorem dX10_copy_2 : decode cX10_copy 2 = .ok (.iconst 3, 1) := by decide +kernel
theorem dX10_copy_3 : decode cX10_copy 3 = .ok (.invokestatic 132, 3) := by decide +kernel
theorem dX10_copy_6 : decode cX10_copy 6 = .ok (.ifCond .eq 12, 3) := by decide +kernel
theorem dX10_copy_9 : decode cX10_copy 9 = .ok (.iload_n 3, 1) := by decide +kernel
theorem dX10_copy_10 : decode cX10_copy 10 = .ok (.iconst 0, 1) := by decide +kernel
theorem dX10_copy_11 : decode cX10_copy 11 = .ok (.iconst 3, 1) := by decide +kernel
theorem dX10_copy_12 : decode cX10_copy 12 = .ok (.invokestatic 132, 3) := by decide +kernel
theorem dX10_copy_15 : decode cX10_copy 15 = .ok (.ifCond .ne 6, 3) := by decide +kernel
theorem dX10_copy_18 : decode cX10_copy 18 = .ok (.bipush (-2), 2) := by decide +kernel
theorem dX10_copy_20 : decode cX10_copy 20 = .ok (.ireturn, 1) := by decide +kernel
theorem dX10_copy_21 : decode cX10_copy 21 = .ok (.aload_n 0, 1) := by decide +kernel
theorem dX10_copy_22 : decode cX10_copy 22 = .ok (.getfield 76, 3) := by decide +kernel
theorem dX10_copy_25 : decode cX10_copy 25 = .ok (.iload_n 1, 1) := by decide +kernel
theorem dX10_copy_26 : decode cX10_copy 26 = .ok (.iaload, 1) := by decide +kernel
theorem dX10_copy_27 : decode cX10_copy 27 = .ok (.iconst (-1), 1) := by decide +kernel
theorem dX10_copy_28 : decode cX10_copy 28 = .ok (.if_icmp .eq 13, 3) := by decide +kernel
theorem dX10_copy_31 : decode cX10_copy 31 = .ok (.aload_n 0, 1) := by decide +kernel
theorem dX10_copy_32 : decode cX10_copy 32 = .ok (.getfield 76, 3) := by decide +kernel
theorem dX10_copy_35 : decode cX10_copy 35 = .ok (.iload_n 3, 1) := by decide +kernel
theorem dX10_copy_36 : decode cX10_copy 36 = .ok (.iaload, 1) := by decide +kernel
theorem dX10_copy_37 : decode cX10_copy 37 = .ok (.iconst (-1), 1) := by decide +kernel
theorem dX10_copy_38 : decode cX10_copy 38 = .ok (.if_icmp .ne 6, 3) := by decide +kernel
theorem dX10_copy_41 : decode cX10_copy 41 = .ok (.bipush (-11), 2) := by decide +kernel
theorem dX10_copy_43 : decode cX10_copy 43 = .ok (.ireturn, 1) := by decide +kernel
theorem dX10_copy_44 : decode cX10_copy 44 = .ok (.aload_n 0, 1) := by decide +kernel
theorem dX10_copy_45 : decode cX10_copy 45 = .ok (.getfield 76, 3) := by decide +kernel
theorem dX10_copy_48 : decode cX10_copy 48 = .ok (.iload_n 1, 1) := by decide +kernel
theorem dX10_copy_49 : decode cX10_copy 49 = .ok (.iaload, 1) := by decide +kernel
theorem dX10_copy_50 : decode cX10_copy 50 = .ok (.aload_n 0, 1) := by decide +kernel
theorem dX10_copy_51 : decode cX10_copy 51 = .ok (.getfield 76, 3) := by decide +kernel
theorem dX10_copy_54 : decode cX10_copy 54 = .ok (.iload_n 3, 1) := by decide +kernel
theorem dX10_copy_55 : decode cX10_copy 55 = .ok (.iaload, 1) := by decide +kernel
theorem dX10_copy_56 : decode cX10_copy 56 = .ok (.if_icmp .eq 6, 3) := by decide +kernel
theorem dX10_copy_59 : decode cX10_copy 59 = .ok (.bipush (-13), 2) := by decide +kernel
theorem dX10_copy_61 : decode cX10_copy 61 = .ok (.ireturn, 1) := by decide +kernel
theorem dX10_copy_62 : decode cX10_copy 62 = .ok (.iload 5, 2) := by decide +kernel
theorem dX10_copy_64 : decode cX10_copy 64 = .ok (.ifCond .lt 60, 3) := by decide +kernel
theorem dX10_copy_67 : decode cX10_copy 67 = .ok (.iload_n 2, 1) := by decide +kernel
theorem dX10_copy_68 : decode cX10_copy 68 = .ok (.ifCond .lt 56, 3) := by decide +kernel
theorem dX10_copy_71 : decode cX10_copy 71 = .ok (.iload 4, 2) := by decide +kernel
theorem dX10_copy_73 : decode cX10_copy 73 = .ok (.ifCond .lt 51, 3) := by decide +kernel
theorem dX10_copy_76 : decode cX10_copy 76 = .ok (.iload_n 2, 1) := by decide +kernel
theorem dX10_copy_77 : decode cX10_copy 77 = .ok (.aload_n 0, 1) := by decide +kernel
theorem dX10_copy_78 : decode cX10_copy 78 = .ok (.getfield 79, 3) := by decide +kernel
theorem dX10_copy_81 : decode cX10_copy 81 = .ok (.iload_n 1, 1) := by decide +kernel
theorem dX10_copy_82 : decode cX10_copy 82 = .ok (.iaload, 1) := by decide +kernel
theorem dX10_copy_83 : decode cX10_copy 83 = .ok (.if_icmp .gt 41, 3) := by decide +kernel
theorem dX10_copy_86 : decode cX10_copy 86 = .ok (.iload 4, 2) := by decide +kernel
theorem dX10_copy_88 : decode cX10_copy 88 = .ok (.aload_n 0, 1) := by decide +kernel
theorem dX10_copy_89 : decode cX10_copy 89 = .ok (.getfield 79, 3) := by decide +kernel
theorem dX10_copy_92 : decode cX10_copy 92 = .ok (.iload_n 3, 1) := by decide +kernel
theorem dX10_copy_93 : decode cX10_copy 93 = .ok (.iaload, 1) := by decide +kernel
theorem dX10_copy_94 : decode cX10_copy 94 = .ok (.if_icmp .gt 30, 3) := by decide +kernel
theorem dX10_copy_97 : decode cX10_copy 97 = .ok (.iload 5, 2) := by decide +kernel
theorem dX10_copy_99 : decode cX10_copy 99 = .ok (.aload_n 0, 1) := by decide +kernel
theorem dX10_copy_100 : decode cX10_copy 100 = .ok (.getfield 79, 3) := by decide +kernel
theorem dX10_copy_103 : decode cX10_copy 103 = .ok (.iload_n 1, 1) := by decide +kernel
theorem dX10_copy_104 : decode cX10_copy 104 = .ok (.iaload, 1) := by decide +kernel
theorem dX10_copy_105 : decode cX10_copy 105 = .ok (.iload_n 2, 1) := by decide +kernel
theorem dX10_copy_106 : decode cX10_copy 106 = .ok (.isub, 1) := by decide +kernel
theorem dX10_copy_107 : decode cX10_copy 107 = .ok (.if_icmp .gt 17, 3) := by decide +kernel
theorem dX10_copy_110 : decode cX10_copy 110 = .ok (.iload 5, 2) := by decide +kernel
theorem dX10_copy_112 : decode cX10_copy 112 = .ok (.aload_n 0, 1) := by decide +kernel
theorem dX10_copy_113 : decode cX10_copy 113 = .ok (.getfield 79, 3) := by decide +kernel
theorem dX10_copy_116 : decode cX10_copy 116 = .ok (.iload_n 3, 1) := by decide +kernel
theorem dX10_copy_117 : decode cX10_copy 117 = .ok (.iaload, 1) := by decide +kernel
theorem dX10_copy_118 : decode cX10_copy 118 = .ok (.iload 4, 2) := by decide +kernel
theorem dX10_copy_120 : decode cX10_copy 120 = .ok (.isub, 1) := by decide +kernel
theorem dX10_copy_121 : decode cX10_copy 121 = .ok (.if_icmp .le 6, 3) := by decide +kernel
theorem dX10_copy_124 : decode cX10_copy 124 = .ok (.bipush (-12), 2) := by decide +kernel
theorem dX10_copy_126 : decode cX10_copy 126 = .ok (.ireturn, 1) := by decide +kernel
theorem dX10_copy_127 : decode cX10_copy 127 = .ok (.bipush 40, 2) := by decide +kernel
theorem dX10_copy_129 : decode cX10_copy 129 = .ok (.iload_n 1, 1) := by decide +kernel
theorem dX10_copy_130 : decode cX10_copy 130 = .ok (.imul, 1) := by decide +kernel
theorem dX10_copy_131 : decode cX10_copy 131 = .ok (.iload_n 2, 1) := by decide +kernel
theorem dX10_copy_132 : decode cX10_copy 132 = .ok (.iadd, 1) := by decide +kernel
theorem dX10_copy_133 : decode cX10_copy 133 = .ok (.istore 6, 2) := by decide +kernel
theorem dX10_copy_135 : decode cX10_copy 135 = .ok (.bipush 40, 2) := by decide +kernel
theorem dX10_copy_137 : decode cX10_copy 137 = .ok (.iload_n 3, 1) := by decide +kernel
theorem dX10_copy_138 : decode cX10_copy 138 = .ok (.imul, 1) := by decide +kernel
theorem dX10_copy_139 : decode cX10_copy 139 = .ok (.iload 4, 2) := by decide +kernel
theorem dX10_copy_141 : decode cX10_copy 141 = .ok (.iadd, 1) := by decide +kernel
theorem dX10_copy_142 : decode cX10_copy 142 = .ok (.istore 7, 2) := by decide +kernel
theorem dX10_copy_144 : decode cX10_copy 144 = .ok (.iconst 0, 1) := by decide +kernel
theorem dX10_copy_145 : decode cX10_copy 145 = .ok (.istore 8, 2) := by decide +kernel
theorem dX10_copy_147 : decode cX10_copy 147 = .ok (.iload 8, 2) := by decide +kernel
theorem dX10_copy_149 : decode cX10_copy 149 = .ok (.iload 5, 2) := by decide +kernel
theorem dX10_copy_151 : decode cX10_copy 151 = .ok (.if_icmp .ge 50, 3) := by decide +kernel
theorem dX10_copy_154 : decode cX10_copy 154 = .ok (.iload 6, 2) := by decide +kernel
theorem dX10_copy_156 : decode cX10_copy 156 = .ok (.iload 7, 2) := by decide +kernel
theorem dX10_copy_158 : decode cX10_copy 158 = .ok (.if_icmp .ge 13, 3) := by decide +kernel
theorem dX10_copy_161 : decode cX10_copy 161 = .ok (.iload 5, 2) := by decide +kernel
theorem dX10_copy_163 : decode cX10_copy 163 = .ok (.iconst 1, 1) := by decide +kernel
theorem dX10_copy_164 : decode cX10_copy 164 = .ok (.isub, 1) := by decide +kernel
theorem dX10_copy_165 : decode cX10_copy 165 = .ok (.iload 8, 2) := by decide +kernel
theorem dX10_copy_167 : decode cX10_copy 167 = .ok (.isub, 1) := by decide +kernel
theorem dX10_copy_168 : decode cX10_copy 168 = .ok (.goto 5, 3) := by decide +kernel
theorem dX10_copy_171 : decode cX10_copy 171 = .ok (.iload 8, 2) := by decide +kernel
theorem dX10_copy_173 : decode cX10_copy 173 = .ok (.istore 9, 2) := by decide +kernel
theorem dX10_copy_175 : decode cX10_copy 175 = .ok (.aload_n 0, 1) := by decide +kernel
theorem dX10_copy_176 : decode cX10_copy 176 = .ok (.getfield 82, 3) := by decide +kernel
theorem dX10_copy_179 : decode cX10_copy 179 = .ok (.iload 7, 2) := by decide +kernel
theorem dX10_copy_181 : decode cX10_copy 181 = .ok (.iload 9, 2) := by decide +kernel
theorem dX10_copy_183 : decode cX10_copy 183 = .ok (.iadd, 1) := by decide +kernel
theorem dX10_copy_184 : decode cX10_copy 184 = .ok (.aload_n 0, 1) := by decide +kernel
theorem dX10_copy_185 : decode cX10_copy 185 = .ok (.getfield 82, 3) := by decide +kernel
theorem dX10_copy_188 : decode cX10_copy 188 = .ok (.iload 6, 2) := by decide +kernel
theorem dX10_copy_190 : decode cX10_copy 190 = .ok (.iload 9, 2) := by decide +kernel
theorem dX10_copy_192 : decode cX10_copy 192 = .ok (.iadd, 1) := by decide +kernel
theorem dX10_copy_193 : decode cX10_copy 193 = .ok (.iaload, 1) := by decide +kernel
theorem dX10_copy_194 : decode cX10_copy 194 = .ok (.iastore, 1) := by decide +kernel
theorem dX10_copy_195 : decode cX10_copy 195 = .ok (.iinc 8 1, 3) := by decide +kernel
theorem dX10_copy_198 : decode cX10_copy 198 = .ok (.goto (-51), 3) := by decide +kernel
theorem dX10_copy_201 : decode cX10_copy 201 = .ok (.iload 5, 2) := by decide +kernel
theorem dX10_copy_203 : decode cX10_copy 203 = .ok (.ireturn, 1) := by decide +kernel
theorem dX10_boatsBy_0 : decode cX10_boatsBy 0 = .ok (.iload_n 1, 1) := by decide +kernel
theorem dX10_boatsBy_1 : decode cX10_boatsBy 1 = .ok (.iconst 0, 1) := by decide +kernel
theorem dX10_boatsBy_2 : decode cX10_boatsBy 2 = .ok (.iconst 3, 1) := by decide +kernel
theorem dX10_boatsBy_3 : decode cX10_boatsBy 3 = .ok (.invokestatic 132, 3) := by decide +kernel
theorem dX10_boatsBy_6 : decode cX10_boatsBy 6 = .ok (.ifCond .eq 23, 3) := by decide +kernel
theorem dX10_boatsBy_9 : decode cX10_boatsBy 9 = .ok (.iload_n 2, 1) := by decide +kernel
theorem dX10_boatsBy_10 : decode cX10_boatsBy 10 = .ok (.iconst 0, 1) := by decide +kernel
theorem dX10_boatsBy_11 : decode cX10_boatsBy 11 = .ok (.iconst 2, 1) := by decide +kernel
theorem dX10_boatsBy_12 : decode cX10_boatsBy 12 = .ok (.invokestatic 132, 3) := by decide +kernel
theorem dX10_boatsBy_15 : decode cX10_boatsBy 15 = .ok (.ifCond .eq 14, 3) := by decide +kernel
theorem dX10_boatsBy_18 : decode cX10_boatsBy 18 = .ok (.iload 4, 2) := by decide +kernel
theorem dX10_boatsBy_20 : decode cX10_boatsBy 20 = .ok (.iconst 0, 1) := by decide +kernel
theorem dX10_boatsBy_21 : decode cX10_boatsBy 21 = .ok (.bipush 6, 2) := by decide +kernel
theorem dX10_boatsBy_23 : decode cX10_boatsBy 23 = .ok (.invokestatic 132, 3) := by decide +kernel
theorem dX10_boatsBy_26 : decode cX10_boatsBy 26 = .ok (.ifCond .ne 6, 3) := by decide +kernel
theorem dX10_boatsBy_29 : decode cX10_boatsBy 29 = .ok (.bipush (-2), 2) := by decide +kernel
theorem dX10_boatsBy_31 : decode cX10_boatsBy 31 = .ok (.ireturn, 1) := by decide +kernel
theorem dX10_boatsBy_32 : decode cX10_boatsBy 32 = .ok (.aload_n 0, 1) := by decide +kernel
theorem dX10_boatsBy_33 : decode cX10_boatsBy 33 = .ok (.getfield 76, 3) := by decide +kernel
theorem dX10_boatsBy_36 : decode cX10_boatsBy 36 = .ok (.iload_n 1, 1) := by decide +kernel
theorem dX10_boatsBy_37 : decode cX10_boatsBy 37 = .ok (.iaload, 1) := by decide +kernel
theorem dX10_boatsBy_38 : decode cX10_boatsBy 38 = .ok (.iconst (-1), 1) := by decide +kernel
theorem dX10_boatsBy_39 : decode cX10_boatsBy 39 = .ok (.if_icmp .ne 6, 3) := by decide +kernel
theorem dX10_boatsBy_42 : decode cX10_boatsBy 42 = .ok (.bipush (-11), 2) := by decide +kernel
theorem dX10_boatsBy_44 : decode cX10_boatsBy 44 = .ok (.ireturn, 1) := by decide +kernel
theorem dX10_boatsBy_45 : decode cX10_boatsBy 45 = .ok (.aload_n 0, 1) := by decide +kernel
theorem dX10_boatsBy_46 : decode cX10_boatsBy 46 = .ok (.getfield 76, 3) := by decide +kernel
theorem dX10_boatsBy_49 : decode cX10_boatsBy 49 = .ok (.iload_n 1, 1) := by decide +kernel
theorem dX10_boatsBy_50 : decode cX10_boatsBy 50 = .ok (.iaload, 1) := by decide +kernel
theorem dX10_boatsBy_51 : decode cX10_boatsBy 51 = .ok (.iload_n 2, 1) := by decide +kernel
theorem dX10_boatsBy_52 : decode cX10_boatsBy 52 = .ok (.if_icmp .eq 6, 3) := by decide +kernel
theorem dX10_boatsBy_55 : decode cX10_boatsBy 55 = .ok (.bipush (-13), 2) := by decide +kernel
theorem dX10_boatsBy_57 : decode cX10_boatsBy 57 = .ok (.ireturn, 1) := by decide +kernel
theorem dX10_boatsBy_58 : decode cX10_boatsBy 58 = .ok (.iconst 0, 1) := by decide +kernel
theorem dX10_boatsBy_59 : decode cX10_boatsBy 59 = .ok (.istore 5, 2) := by decide +kernel
theorem dX10_boatsBy_61 : decode cX10_boatsBy 61 = .ok (.iconst 0, 1) := by decide +kernel
theorem dX10_boatsBy_62 : decode cX10_boatsBy 62 = .ok (.istore 6, 2) := by decide +kernel
theorem dX10_boatsBy_64 : decode cX10_boatsBy 64 = .ok (.iload 6, 2) := by decide +kernel
theorem dX10_boatsBy_66 : decode cX10_boatsBy 66 = .ok (.iload 4, 2) := by decide +kernel
theorem dX10_boatsBy_68 : decode cX10_boatsBy 68 = .ok (.if_icmp .ge 103, 3) := by decide +kernel
theorem dX10_boatsBy_71 : decode cX10_boatsBy 71 = .ok (.iload_n 3, 1) := by decide +kernel
theorem dX10_boatsBy_72 : decode cX10_boatsBy 72 = .ok (.iconst 4, 1) := by decide +kernel
theorem dX10_boatsBy_73 : decode cX10_boatsBy 73 = .ok (.iload 6, 2) := by decide +kernel
theorem dX10_boatsBy_75 : decode cX10_boatsBy 75 = .ok (.imul, 1) := by decide +kernel
theorem dX10_boatsBy_76 : decode cX10_boatsBy 76 = .ok (.iadd, 1) := by decide +kernel
theorem dX10_boatsBy_77 : decode cX10_boatsBy 77 = .ok (.istore 7, 2) := by decide +kernel
theorem dX10_boatsBy_79 : decode cX10_boatsBy 79 = .ok (.iload_n 3, 1) := by decide +kernel
theorem dX10_boatsBy_80 : decode cX10_boatsBy 80 = .ok (.ifCond .lt 22, 3) := by decide +kernel
theorem dX10_boatsBy_83 : decode cX10_boatsBy 83 = .ok (.iload 7, 2) := by decide +kernel
theorem dX10_boatsBy_85 : decode cX10_boatsBy 85 = .ok (.iload_n 3, 1) := by decide +kernel
theorem dX10_boatsBy_86 : decode cX10_boatsBy 86 = .ok (.if_icmp .lt 16, 3) := by decide +kernel
theorem dX10_boatsBy_89 : decode cX10_boatsBy 89 = .ok (.iload 7, 2) := by decide +kernel
theorem dX10_boatsBy_91 : decode cX10_boatsBy 91 = .ok (.aload_n 0, 1) := by decide +kernel
theorem dX10_boatsBy_92 : decode cX10_boatsBy 92 = .ok (.getfield 79, 3) := by decide +kernel
theorem dX10_boatsBy_95 : decode cX10_boatsBy 95 = .ok (.iload_n 1, 1) := by decide +kernel
theorem dX10_boatsBy_96 : decode cX10_boatsBy 96 = .ok (.iaload, 1) := by decide +kernel
theorem dX10_boatsBy_97 : decode cX10_boatsBy 97 = .ok (.iconst 4, 1) := by decide +kernel
theorem dX10_boatsBy_98 : decode cX10_boatsBy 98 = .ok (.isub, 1) := by decide +kernel
theorem dX10_boatsBy_99 : decode cX10_boatsBy 99 = .ok (.if_icmp .le 6, 3) := by decide +kernel
theorem dX10_boatsBy_102 : decode cX10_boatsBy 102 = .ok (.bipush (-12), 2) := by decide +kernel
theorem dX10_boatsBy_104 : decode cX10_boatsBy 104 = .ok (.ireturn, 1) := by decide +kernel
theorem dX10_boatsBy_105 : decode cX10_boatsBy 105 = .ok (.bipush 40, 2) := by decide +kernel
theorem dX10_boatsBy_107 : decode cX10_boatsBy 107 = .ok (.iload_n 1, 1) := by decide +kernel
theorem dX10_boatsBy_108 : decode cX10_boatsBy 108 = .ok (.imul, 1) := by decide +kernel
theorem dX10_boatsBy_109 : decode cX10_boatsBy 109 = .ok (.iload 7, 2) := by decide +kernel
theorem dX10_boatsBy_111 : decode cX10_boatsBy 111 = .ok (.iadd, 1) := by decide +kernel
theorem dX10_boatsBy_112 : decode cX10_boatsBy 112 = .ok (.istore 8, 2) := by decide +kernel
theorem dX10_boatsBy_114 : decode cX10_boatsBy 114 = .ok (.iload 5, 2) := by decide +kernel
theorem dX10_boatsBy_116 : decode cX10_boatsBy 116 = .ok (.aload_n 0, 1) := by decide +kernel
theorem dX10_boatsBy_117 : decode cX10_boatsBy 117 = .ok (.aload_n 0, 1) := by decide +kernel
theorem dX10_boatsBy_118 : decode cX10_boatsBy 118 = .ok (.getfield 82, 3) := by decide +kernel
theorem dX10_boatsBy_121 : decode cX10_boatsBy 121 = .ok (.iload 8, 2) := by decide +kernel
theorem dX10_boatsBy_123 : decode cX10_boatsBy 123 = .ok (.iaload, 1) := by decide +kernel
theorem dX10_boatsBy_124 : decode cX10_boatsBy 124 = .ok (.aload_n 0, 1) := by decide +kernel
theorem dX10_boatsBy_125 : decode cX10_boatsBy 125 = .ok (.getfield 82, 3) := by decide +kernel
theorem dX10_boatsBy_128 : decode cX10_boatsBy 128 = .ok (.iload 8, 2) := by decide +kernel
theorem dX10_boatsBy_130 : decode cX10_boatsBy 130 = .ok (.iconst 1, 1) := by decide +kernel
theorem dX10_boatsBy_131 : decode cX10_boatsBy 131 = .ok (.iadd, 1) := by decide +kernel
theorem dX10_boatsBy_132 : decode cX10_boatsBy 132 = .ok (.iaload, 1) := by decide +kernel
theorem dX10_boatsBy_133 : decode cX10_boatsBy 133 = .ok (.aload_n 0, 1) := by decide +kernel
theorem dX10_boatsBy_134 : decode cX10_boatsBy 134 = .ok (.getfield 82, 3) := by decide +kernel
theorem dX10_boatsBy_137 : decode cX10_boatsBy 137 = .ok (.iload 8, 2) := by decide +kernel
theorem dX10_boatsBy_139 : decode cX10_boatsBy 139 = .ok (.iconst 2, 1) := by decide +kernel
theorem dX10_boatsBy_140 : decode cX10_boatsBy 140 = .ok (.iadd, 1) := by decide +kernel
theorem dX10_boatsBy_141 : decode cX10_boatsBy 141 = .ok (.iaload, 1) := by decide +kernel
theorem dX10_boatsBy_142 : decode cX10_boatsBy 142 = .ok (.aload_n 0, 1) := by decide +kernel
theorem dX10_boatsBy_143 : decode cX10_boatsBy 143 = .ok (.getfield 82, 3) := by decide +kernel
theorem dX10_boatsBy_146 : decode cX10_boatsBy 146 = .ok (.iload 8, 2) := by decide +kernel
theorem dX10_boatsBy_148 : decode cX10_boatsBy 148 = .ok (.iconst 3, 1) := by decide +kernel
theorem dX10_boatsBy_149 : decode cX10_boatsBy 149 = .ok (.iadd, 1) := by decide +kernel
theorem dX10_boatsBy_150 : decode cX10_boatsBy 150 = .ok (.iaload, 1) := by decide +kernel
theorem dX10_boatsBy_151 : decode cX10_boatsBy 151 = .ok (.invokevirtual 379, 3) := by decide +kernel
theorem dX10_boatsBy_154 : decode cX10_boatsBy 154 = .ok (.ifCond .lt 7, 3) := by decide +kernel
theorem dX10_boatsBy_157 : decode cX10_boatsBy 157 = .ok (.iconst 1, 1) := by decide +kernel
theorem dX10_boatsBy_158 : decode cX10_boatsBy 158 = .ok (.goto 4, 3) := by decide +kernel
theorem dX10_boatsBy_161 : decode cX10_boatsBy 161 = .ok (.iconst 0, 1) := by decide +kernel
theorem dX10_boatsBy_162 : decode cX10_boatsBy 162 = .ok (.iadd, 1) := by decide +kernel
theorem dX10_boatsBy_163 : decode cX10_boatsBy 163 = .ok (.istore 5, 2) := by decide +kernel
theorem dX10_boatsBy_165 : decode cX10_boatsBy 165 = .ok (.iinc 6 1, 3) := by decide +kernel
theorem dX10_boatsBy_168 : decode cX10_boatsBy 168 = .ok (.goto (-104), 3) := by decide +kernel
theorem dX10_boatsBy_171 : decode cX10_boatsBy 171 = .ok (.iload 5, 2) := by decide +kernel
theorem dX10_boatsBy_173 : decode cX10_boatsBy 173 = .ok (.ireturn, 1) := by decide +kernel
theorem dX10_isUnder_0 : decode cX10_isUnder 0 = .ok (.iload_n 1, 1) := by decide +kernel
theorem dX10_isUnder_1 : decode cX10_isUnder 1 = .ok (.ifCond .eq 23, 3) := by decide +kernel
theorem dX10_isUnder_4 : decode cX10_isUnder 4 = .ok (.iload_n 0, 1) := by decide +kernel
theorem dX10_isUnder_5 : decode cX10_isUnder 5 = .ok (.iload_n 1, 1) := by decide +kernel
theorem dX10_isUnder_6 : decode cX10_isUnder 6 = .ok (.if_icmp .eq 18, 3) := by decide +kernel
theorem dX10_isUnder_9 : decode cX10_isUnder 9 = .ok (.iload_n 1, 1) := by decide +kernel
theorem dX10_isUnder_10 : decode cX10_isUnder 10 = .ok (.iconst 1, 1) := by decide +kernel
theorem dX10_isUnder_11 : decode cX10_isUnder 11 = .ok (.if_icmp .ne 17, 3) := by decide +kernel
theorem dX10_isUnder_14 : decode cX10_isUnder 14 = .ok (.iload_n 0, 1) := by decide +kernel
theorem dX10_isUnder_15 : decode cX10_isUnder 15 = .ok (.iconst 4, 1) := by decide +kernel
theorem dX10_isUnder_16 : decode cX10_isUnder 16 = .ok (.if_icmp .eq 8, 3) := by decide +kernel
theorem dX10_isUnder_19 : decode cX10_isUnder 19 = .ok (.iload_n 0, 1) := by decide +kernel
theorem dX10_isUnder_20 : decode cX10_isUnder 20 = .ok (.iconst 5, 1) := by decide +kernel
theorem dX10_isUnder_21 : decode cX10_isUnder 21 = .ok (.if_icmp .ne 7, 3) := by decide +kernel
theorem dX10_isUnder_24 : decode cX10_isUnder 24 = .ok (.iconst 1, 1) := by decide +kernel
theorem dX10_isUnder_25 : decode cX10_isUnder 25 = .ok (.goto 4, 3) := by decide +kernel
theorem dX10_isUnder_28 : decode cX10_isUnder 28 = .ok (.iconst 0, 1) := by decide +kernel
theorem dX10_isUnder_29 : decode cX10_isUnder 29 = .ok (.ireturn, 1) := by decide +kernel
theorem dX10_taken_0 : decode cX10_taken 0 = .ok (.iload_n 2, 1) := by decide +kernel
theorem dX10_taken_1 : decode cX10_taken 1 = .ok (.iconst 0, 1) := by decide +kernel
theorem dX10_taken_2 : decode cX10_taken 2 = .ok (.bipush 6, 2) := by decide +kernel
theorem dX10_taken_4 : decode cX10_taken 4 = .ok (.invokestatic 132, 3) := by decide +kernel
theorem dX10_taken_7 : decode cX10_taken 7 = .ok (.ifCond .ne 6, 3) := by decide +kernel
theorem dX10_taken_10 : decode cX10_taken 10 = .ok (.bipush (-2), 2) := by decide +kernel
theorem dX10_taken_12 : decode cX10_taken 12 = .ok (.ireturn, 1) := by decide +kernel
theorem dX10_taken_13 : decode cX10_taken 13 = .ok (.iload_n 1, 1) := by decide +kernel
theorem dX10_taken_14 : decode cX10_taken 14 = .ok (.invokestatic 142, 3) := by decide +kernel
theorem dX10_taken_17 : decode cX10_taken 17 = .ok (.ifCond .ne 6, 3) := by decide +kernel
theorem dX10_taken_20 : decode cX10_taken 20 = .ok (.bipush (-12), 2) := by decide +kernel
theorem dX10_taken_22 : decode cX10_taken 22 = .ok (.ireturn, 1) := by decide +kernel
theorem dX10_taken_23 : decode cX10_taken 23 = .ok (.iconst 0, 1) := by decide +kernel
theorem dX10_taken_24 : decode cX10_taken 24 = .ok (.istore_n 3, 1) := by decide +kernel
theorem dX10_taken_25 : decode cX10_taken 25 = .ok (.iload_n 3, 1) := by decide +kernel
theorem dX10_taken_26 : decode cX10_taken 26 = .ok (.aload_n 0, 1) := by decide +kernel
theorem dX10_taken_27 : decode cX10_taken 27 = .ok (.getfield 136, 3) := by decide +kernel
theorem dX10_taken_30 : decode cX10_taken 30 = .ok (.if_icmp .ge 45, 3) := by decide +kernel
theorem dX10_taken_33 : decode cX10_taken 33 = .ok (.aload_n 0, 1) := by decide +kernel
theorem dX10_taken_34 : decode cX10_taken 34 = .ok (.getfield 43, 3) := by decide +kernel
theorem dX10_taken_37 : decode cX10_taken 37 = .ok (.iload_n 3, 1) := by decide +kernel
theorem dX10_taken_38 : decode cX10_taken 38 = .ok (.iaload, 1) := by decide +kernel
theorem dX10_taken_39 : decode cX10_taken 39 = .ok (.iload_n 1, 1) := by decide +kernel
theorem dX10_taken_40 : decode cX10_taken 40 = .ok (.if_icmp .ne 29, 3) := by decide +kernel
theorem dX10_taken_43 : decode cX10_taken 43 = .ok (.iload_n 2, 1) := by decide +kernel
theorem dX10_taken_44 : decode cX10_taken 44 = .ok (.bipush 6, 2) := by decide +kernel
theorem dX10_taken_46 : decode cX10_taken 46 = .ok (.if_icmp .ge 20, 3) := by decide +kernel
theorem dX10_taken_49 : decode cX10_taken 49 = .ok (.aload_n 0, 1) := by decide +kernel
theorem dX10_taken_50 : decode cX10_taken 50 = .ok (.getfield 31, 3) := by decide +kernel
theorem dX10_taken_53 : decode cX10_taken 53 = .ok (.iload_n 3, 1) := by decide +kernel
theorem dX10_taken_54 : decode cX10_taken 54 = .ok (.iaload, 1) := by decide +kernel
theorem dX10_taken_55 : decode cX10_taken 55 = .ok (.iload_n 2, 1) := by decide +kernel
theorem dX10_taken_56 : decode cX10_taken 56 = .ok (.invokestatic 382, 3) := by decide +kernel
theorem dX10_taken_59 : decode cX10_taken 59 = .ok (.ifCond .eq 7, 3) := by decide +kernel
theorem dX10_taken_62 : decode cX10_taken 62 = .ok (.iload_n 3, 1) := by decide +kernel
theorem dX10_taken_63 : decode cX10_taken 63 = .ok (.goto 5, 3) := by decide +kernel
theorem dX10_taken_66 : decode cX10_taken 66 = .ok (.bipush (-13), 2) := by decide +kernel
theorem dX10_taken_68 : decode cX10_taken 68 = .ok (.ireturn, 1) := by decide +kernel
theorem dX10_taken_69 : decode cX10_taken 69 = .ok (.iinc 3 1, 3) := by decide +kernel
theorem dX10_taken_72 : decode cX10_taken 72 = .ok (.goto (-47), 3) := by decide +kernel
theorem dX10_taken_75 : decode cX10_taken 75 = .ok (.aload_n 0, 1) := by decide +kernel
theorem dX10_taken_76 : decode cX10_taken 76 = .ok (.getfield 7, 3) := by decide +kernel
theorem dX10_taken_79 : decode cX10_taken 79 = .ok (.iload_n 1, 1) := by decide +kernel
theorem dX10_taken_80 : decode cX10_taken 80 = .ok (.iaload, 1) := by decide +kernel
theorem dX10_taken_81 : decode cX10_taken 81 = .ok (.ifCond .ne 8, 3) := by decide +kernel
theorem dX10_taken_84 : decode cX10_taken 84 = .ok (.bipush (-11), 2) := by decide +kernel
theorem dX10_taken_86 : decode cX10_taken 86 = .ok (.goto 30, 3) := by decide +kernel
theorem dX10_taken_89 : decode cX10_taken 89 = .ok (.iload_n 2, 1) := by decide +kernel
theorem dX10_taken_90 : decode cX10_taken 90 = .ok (.bipush 6, 2) := by decide +kernel
theorem dX10_taken_92 : decode cX10_taken 92 = .ok (.if_icmp .ne 22, 3) := by decide +kernel
theorem dX10_taken_95 : decode cX10_taken 95 = .ok (.bipush 10, 2) := by decide +kernel
theorem dX10_taken_97 : decode cX10_taken 97 = .ok (.aload_n 0, 1) := by decide +kernel
theorem dX10_taken_98 : decode cX10_taken 98 = .ok (.getfield 7, 3) := by decide +kernel
theorem dX10_taken_101 : decode cX10_taken 101 = .ok (.iload_n 1, 1) := by decide +kernel
theorem dX10_taken_102 : decode cX10_taken 102 = .ok (.iaload, 1) := by decide +kernel
theorem dX10_taken_103 : decode cX10_taken 103 = .ok (.imul, 1) := by decide +kernel
theorem dX10_taken_104 : decode cX10_taken 104 = .ok (.aload_n 0, 1) := by decide +kernel
theorem dX10_taken_105 : decode cX10_taken 105 = .ok (.getfield 13, 3) := by decide +kernel
theorem dX10_taken_108 : decode cX10_taken 108 = .ok (.iload_n 1, 1) := by decide +kernel
theorem dX10_taken_109 : decode cX10_taken 109 = .ok (.iaload, 1) := by decide +kernel
theorem dX10_taken_110 : decode cX10_taken 110 = .ok (.iadd, 1) := by decide +kernel
theorem dX10_taken_111 : decode cX10_taken 111 = .ok (.goto 5, 3) := by decide +kernel
theorem dX10_taken_114 : decode cX10_taken 114 = .ok (.bipush (-13), 2) := by decide +kernel
theorem dX10_taken_116 : decode cX10_taken 116 = .ok (.ireturn, 1) := by decide +kernel
