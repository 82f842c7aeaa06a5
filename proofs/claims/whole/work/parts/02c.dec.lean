theorem dX7_init_0 : decode cX7_init 0 = .ok (.aload_n 0, 1) := by decide +kernel
theorem dX7_init_1 : decode cX7_init 1 = .ok (.invokespecial 1, 3) := by decide +kernel
theorem dX7_init_4 : decode cX7_init 4 = .ok (.aload_n 0, 1) := by decide +kernel
theorem dX7_init_5 : decode cX7_init 5 = .ok (.bipush 6, 2) := by decide +kernel
theorem dX7_init_7 : decode cX7_init 7 = .ok (.newarray .int, 2) := by decide +kernel
theorem dX7_init_9 : decode cX7_init 9 = .ok (.putfield 7, 3) := by decide +kernel
theorem dX7_init_12 : decode cX7_init 12 = .ok (.aload_n 0, 1) := by decide +kernel
theorem dX7_init_13 : decode cX7_init 13 = .ok (.bipush 6, 2) := by decide +kernel
theorem dX7_init_15 : decode cX7_init 15 = .ok (.newarray .int, 2) := by decide +kernel
theorem dX7_init_17 : decode cX7_init 17 = .ok (.putfield 13, 3) := by decide +kernel
theorem dX7_init_20 : decode cX7_init 20 = .ok (.aload_n 0, 1) := by decide +kernel
theorem dX7_init_21 : decode cX7_init 21 = .ok (.bipush 24, 2) := by decide +kernel
theorem dX7_init_23 : decode cX7_init 23 = .ok (.newarray .int, 2) := by decide +kernel
theorem dX7_init_25 : decode cX7_init 25 = .ok (.putfield 16, 3) := by decide +kernel
theorem dX7_init_28 : decode cX7_init 28 = .ok (.aload_n 0, 1) := by decide +kernel
theorem dX7_init_29 : decode cX7_init 29 = .ok (.bipush 36, 2) := by decide +kernel
theorem dX7_init_31 : decode cX7_init 31 = .ok (.newarray .int, 2) := by decide +kernel
theorem dX7_init_33 : decode cX7_init 33 = .ok (.putfield 19, 3) := by decide +kernel
theorem dX7_init_36 : decode cX7_init 36 = .ok (.aload_n 0, 1) := by decide +kernel
theorem dX7_init_37 : decode cX7_init 37 = .ok (.sipush 160, 3) := by decide +kernel
theorem dX7_init_40 : decode cX7_init 40 = .ok (.newarray .int, 2) := by decide +kernel
theorem dX7_init_42 : decode cX7_init 42 = .ok (.putfield 22, 3) := by decide +kernel
theorem dX7_init_45 : decode cX7_init 45 = .ok (.aload_n 0, 1) := by decide +kernel
theorem dX7_init_46 : decode cX7_init 46 = .ok (.sipush 1200, 3) := by decide +kernel
theorem dX7_init_49 : decode cX7_init 49 = .ok (.newarray .int, 2) := by decide +kernel
theorem dX7_init_51 : decode cX7_init 51 = .ok (.putfield 25, 3) := by decide +kernel
theorem dX7_init_54 : decode cX7_init 54 = .ok (.aload_n 0, 1) := by decide +kernel
theorem dX7_init_55 : decode cX7_init 55 = .ok (.bipush 24, 2) := by decide +kernel
theorem dX7_init_57 : decode cX7_init 57 = .ok (.newarray .int, 2) := by decide +kernel
theorem dX7_init_59 : decode cX7_init 59 = .ok (.putfield 28, 3) := by decide +kernel
theorem dX7_init_62 : decode cX7_init 62 = .ok (.aload_n 0, 1) := by decide +kernel
theorem dX7_init_63 : decode cX7_init 63 = .ok (.bipush 60, 2) := by decide +kernel
theorem dX7_init_65 : decode cX7_init 65 = .ok (.newarray .int, 2) := by decide +kernel
theorem dX7_init_67 : decode cX7_init 67 = .ok (.putfield 31, 3) := by decide +kernel
theorem dX7_init_70 : decode cX7_init 70 = .ok (.aload_n 0, 1) := by decide +kernel
theorem dX7_init_71 : decode cX7_init 71 = .ok (.iconst 3, 1) := by decide +kernel
theorem dX7_init_72 : decode cX7_init 72 = .ok (.newarray .int, 2) := by decide +kernel
theorem dX7_init_74 : decode cX7_init 74 = .ok (.putfield 34, 3) := by decide +kernel
theorem dX7_init_77 : decode cX7_init 77 = .ok (.aload_n 0, 1) := by decide +kernel
theorem dX7_init_78 : decode cX7_init 78 = .ok (.iconst 4, 1) := by decide +kernel
theorem dX7_init_79 : decode cX7_init 79 = .ok (.newarray .int, 2) := by decide +kernel
theorem dX7_init_81 : decode cX7_init 81 = .ok (.dup, 1) := by decide +kernel
theorem dX7_init_82 : decode cX7_init 82 = .ok (.iconst 0, 1) := by decide +kernel
theorem dX7_init_83 : decode cX7_init 83 = .ok (.iconst (-1), 1) := by decide +kernel
theorem dX7_init_84 : decode cX7_init 84 = .ok (.iastore, 1) := by decide +kernel
theorem dX7_init_85 : decode cX7_init 85 = .ok (.dup, 1) := by decide +kernel
theorem dX7_init_86 : decode cX7_init 86 = .ok (.iconst 1, 1) := by decide +kernel
theorem dX7_init_87 : decode cX7_init 87 = .ok (.iconst (-1), 1) := by decide +kernel
theorem dX7_init_88 : decode cX7_init 88 = .ok (.iastore, 1) := by decide +kernel
theorem dX7_init_89 : decode cX7_init 89 = .ok (.dup, 1) := by decide +kernel
theorem dX7_init_90 : decode cX7_init 90 = .ok (.iconst 2, 1) := by decide +kernel
theorem dX7_init_91 : decode cX7_init 91 = .ok (.iconst (-1), 1) := by decide +kernel
theorem dX7_init_92 : decode cX7_init 92 = .ok (.iastore, 1) := by decide +kernel
theorem dX7_init_93 : decode cX7_init 93 = .ok (.dup, 1) := by decide +kernel
theorem dX7_init_94 : decode cX7_init 94 = .ok (.iconst 3, 1) := by decide +kernel
theorem dX7_init_95 : decode cX7_init 95 = .ok (.iconst (-1), 1) := by decide +kernel
theorem dX7_init_96 : decode cX7_init 96 = .ok (.iastore, 1) := by decide +kernel
theorem dX7_init_97 : decode cX7_init 97 = .ok (.putfield 37, 3) := by decide +kernel
theorem dX7_init_100 : decode cX7_init 100 = .ok (.aload_n 0, 1) := by decide +kernel
theorem dX7_init_101 : decode cX7_init 101 = .ok (.iconst 4, 1) := by decide +kernel
theorem dX7_init_102 : decode cX7_init 102 = .ok (.newarray .int, 2) := by decide +kernel
theorem dX7_init_104 : decode cX7_init 104 = .ok (.putfield 40, 3) := by decide +kernel
theorem dX7_init_107 : decode cX7_init 107 = .ok (.aload_n 0, 1) := by decide +kernel
theorem dX7_init_108 : decode cX7_init 108 = .ok (.sipush 160, 3) := by decide +kernel
theorem dX7_init_111 : decode cX7_init 111 = .ok (.newarray .int, 2) := by decide +kernel
theorem dX7_init_113 : decode cX7_init 113 = .ok (.putfield 43, 3) := by decide +kernel
theorem dX7_init_116 : decode cX7_init 116 = .ok (.aload_n 0, 1) := by decide +kernel
theorem dX7_init_117 : decode cX7_init 117 = .ok (.bipush 26, 2) := by decide +kernel
theorem dX7_init_119 : decode cX7_init 119 = .ok (.newarray .int, 2) := by decide +kernel
theorem dX7_init_121 : decode cX7_init 121 = .ok (.dup, 1) := by decide +kernel
theorem dX7_init_122 : decode cX7_init 122 = .ok (.iconst 0, 1) := by decide +kernel
theorem dX7_init_123 : decode cX7_init 123 = .ok (.bipush 103, 2) := by decide +kernel
theorem dX7_init_125 : decode cX7_init 125 = .ok (.iastore, 1) := by decide +kernel
theorem dX7_init_126 : decode cX7_init 126 = .ok (.dup, 1) := by decide +kernel
theorem dX7_init_127 : decode cX7_init 127 = .ok (.iconst 1, 1) := by decide +kernel
theorem dX7_init_128 : decode cX7_init 128 = .ok (.bipush 111, 2) := by decide +kernel
theorem dX7_init_130 : decode cX7_init 130 = .ok (.iastore, 1) := by decide +kernel
theorem dX7_init_131 : decode cX7_init 131 = .ok (.dup, 1) := by decide +kernel
theorem dX7_init_132 : decode cX7_init 132 = .ok (.iconst 2, 1) := by decide +kernel
theorem dX7_init_133 : decode cX7_init 133 = .ok (.bipush 101, 2) := by decide +kernel
theorem dX7_init_135 : decode cX7_init 135 = .ok (.iastore, 1) := by decide +kernel
theorem dX7_init_136 : decode cX7_init 136 = .ok (.dup, 1) := by decide +kernel
theorem dX7_init_137 : decode cX7_init 137 = .ok (.iconst 3, 1) := by decide +kernel
theorem dX7_init_138 : decode cX7_init 138 = .ok (.bipush 115, 2) := by decide +kernel
theorem dX7_init_140 : decode cX7_init 140 = .ok (.iastore, 1) := by decide +kernel
theorem dX7_init_141 : decode cX7_init 141 = .ok (.dup, 1) := by decide +kernel
theorem dX7_init_142 : decode cX7_init 142 = .ok (.iconst 4, 1) := by decide +kernel
theorem dX7_init_143 : decode cX7_init 143 = .ok (.bipush 32, 2) := by decide +kernel
theorem dX7_init_145 : decode cX7_init 145 = .ok (.iastore, 1) := by decide +kernel
theorem dX7_init_146 : decode cX7_init 146 = .ok (.dup, 1) := by decide +kernel
theorem dX7_init_147 : decode cX7_init 147 = .ok (.iconst 5, 1) := by decide +kernel
theorem dX7_init_148 : decode cX7_init 148 = .ok (.bipush 49, 2) := by decide +kernel
theorem dX7_init_150 : decode cX7_init 150 = .ok (.iastore, 1) := by decide +kernel
theorem dX7_init_151 : decode cX7_init 151 = .ok (.dup, 1) := by decide +kernel
theorem dX7_init_152 : decode cX7_init 152 = .ok (.bipush 6, 2) := by decide +kernel
theorem dX7_init_154 : decode cX7_init 154 = .ok (.bipush 32, 2) := by decide +kernel
theorem dX7_init_156 : decode cX7_init 156 = .ok (.iastore, 1) := by decide +kernel
theorem dX7_init_157 : decode cX7_init 157 = .ok (.dup, 1) := by decide +kernel
theorem dX7_init_158 : decode cX7_init 158 = .ok (.bipush 7, 2) := by decide +kernel
theorem dX7_init_160 : decode cX7_init 160 = .ok (.bipush 59, 2) := by decide +kernel
theorem dX7_init_162 : decode cX7_init 162 = .ok (.iastore, 1) := by decide +kernel
theorem dX7_init_163 : decode cX7_init 163 = .ok (.dup, 1) := by decide +kernel
theorem dX7_init_164 : decode cX7_init 164 = .ok (.bipush 8, 2) := by decide +kernel
theorem dX7_init_166 : decode cX7_init 166 = .ok (.bipush 32, 2) := by decide +kernel
theorem dX7_init_168 : decode cX7_init 168 = .ok (.iastore, 1) := by decide +kernel
theorem dX7_init_169 : decode cX7_init 169 = .ok (.dup, 1) := by decide +kernel
theorem dX7_init_170 : decode cX7_init 170 = .ok (.bipush 9, 2) := by decide +kernel
theorem dX7_init_172 : decode cX7_init 172 = .ok (.bipush 104, 2) := by decide +kernel
theorem dX7_init_174 : decode cX7_init 174 = .ok (.iastore, 1) := by decide +kernel
theorem dX7_init_175 : decode cX7_init 175 = .ok (.dup, 1) := by decide +kernel
theorem dX7_init_176 : decode cX7_init 176 = .ok (.bipush 10, 2) := by decide +kernel
theorem dX7_init_178 : decode cX7_init 178 = .ok (.bipush 105, 2) := by decide +kernel
theorem dX7_init_180 : decode cX7_init 180 = .ok (.iastore, 1) := by decide +kernel
theorem dX7_init_181 : decode cX7_init 181 = .ok (.dup, 1) := by decide +kernel
theorem dX7_init_182 : decode cX7_init 182 = .ok (.bipush 11, 2) := by decide +kernel
theorem dX7_init_184 : decode cX7_init 184 = .ok (.bipush 116, 2) := by decide +kernel
theorem dX7_init_186 : decode cX7_init 186 = .ok (.iastore, 1) := by decide +kernel
theorem dX7_init_187 : decode cX7_init 187 = .ok (.dup, 1) := by decide +kernel
theorem dX7_init_188 : decode cX7_init 188 = .ok (.bipush 12, 2) := by decide +kernel
theorem dX7_init_190 : decode cX7_init 190 = .ok (.bipush 115, 2) := by decide +kernel
theorem dX7_init_192 : decode cX7_init 192 = .ok (.iastore, 1) := by decide +kernel
theorem dX7_init_193 : decode cX7_init 193 = .ok (.dup, 1) := by decide +kernel
theorem dX7_init_194 : decode cX7_init 194 = .ok (.bipush 13, 2) := by decide +kernel
theorem dX7_init_196 : decode cX7_init 196 = .ok (.bipush 32, 2) := by decide +kernel
theorem dX7_init_198 : decode cX7_init 198 = .ok (.iastore, 1) := by decide +kernel
theorem dX7_init_199 : decode cX7_init 199 = .ok (.dup, 1) := by decide +kernel
theorem dX7_init_200 : decode cX7_init 200 = .ok (.bipush 14, 2) := by decide +kernel
theorem dX7_init_202 : decode cX7_init 202 = .ok (.bipush 53, 2) := by decide +kernel
theorem dX7_init_204 : decode cX7_init 204 = .ok (.iastore, 1) := by decide +kernel
theorem dX7_init_205 : decode cX7_init 205 = .ok (.dup, 1) := by decide +kernel
theorem dX7_init_206 : decode cX7_init 206 = .ok (.bipush 15, 2) := by decide +kernel
theorem dX7_init_208 : decode cX7_init 208 = .ok (.bipush 32, 2) := by decide +kernel
theorem dX7_init_210 : decode cX7_init 210 = .ok (.iastore, 1) := by decide +kernel
theorem dX7_init_211 : decode cX7_init 211 = .ok (.dup, 1) := by decide +kernel
theorem dX7_init_212 : decode cX7_init 212 = .ok (.bipush 16, 2) := by decide +kernel
theorem dX7_init_214 : decode cX7_init 214 = .ok (.bipush 59, 2) := by decide +kernel
theorem dX7_init_216 : decode cX7_init 216 = .ok (.iastore, 1) := by decide +kernel
theorem dX7_init_217 : decode cX7_init 217 = .ok (.dup, 1) := by decide +kernel
theorem dX7_init_218 : decode cX7_init 218 = .ok (.bipush 17, 2) := by decide +kernel
theorem dX7_init_220 : decode cX7_init 220 = .ok (.bipush 32, 2) := by decide +kernel
theorem dX7_init_222 : decode cX7_init 222 = .ok (.iastore, 1) := by decide +kernel
theorem dX7_init_223 : decode cX7_init 223 = .ok (.dup, 1) := by decide +kernel
theorem dX7_init_224 : decode cX7_init 224 = .ok (.bipush 18, 2) := by decide +kernel
theorem dX7_init_226 : decode cX7_init 226 = .ok (.bipush 115, 2) := by decide +kernel
theorem dX7_init_228 : decode cX7_init 228 = .ok (.iastore, 1) := by decide +kernel
theorem dX7_init_229 : decode cX7_init 229 = .ok (.dup, 1) := by decide +kernel
theorem dX7_init_230 : decode cX7_init 230 = .ok (.bipush 19, 2) := by decide +kernel
theorem dX7_init_232 : decode cX7_init 232 = .ok (.bipush 111, 2) := by decide +kernel
theorem dX7_init_234 : decode cX7_init 234 = .ok (.iastore, 1) := by decide +kernel
theorem dX7_init_235 : decode cX7_init 235 = .ok (.dup, 1) := by decide +kernel
theorem dX7_init_236 : decode cX7_init 236 = .ok (.bipush 20, 2) := by decide +kernel
theorem dX7_init_238 : decode cX7_init 238 = .ok (.bipush 102, 2) := by decide +kernel
theorem dX7_init_240 : decode cX7_init 240 = .ok (.iastore, 1) := by decide +kernel
theorem dX7_init_241 : decode cX7_init 241 = .ok (.dup, 1) := by decide +kernel
theorem dX7_init_242 : decode cX7_init 242 = .ok (.bipush 21, 2) := by decide +kernel
theorem dX7_init_244 : decode cX7_init 244 = .ok (.bipush 116, 2) := by decide +kernel
theorem dX7_init_246 : decode cX7_init 246 = .ok (.iastore, 1) := by decide +kernel
theorem dX7_init_247 : decode cX7_init 247 = .ok (.dup, 1) := by decide +kernel
theorem dX7_init_248 : decode cX7_init 248 = .ok (.bipush 22, 2) := by decide +kernel
theorem dX7_init_250 : decode cX7_init 250 = .ok (.bipush 32, 2) := by decide +kernel
theorem dX7_init_252 : decode cX7_init 252 = .ok (.iastore, 1) := by decide +kernel
theorem dX7_init_253 : decode cX7_init 253 = .ok (.dup, 1) := by decide +kernel
theorem dX7_init_254 : decode cX7_init 254 = .ok (.bipush 23, 2) := by decide +kernel
theorem dX7_init_256 : decode cX7_init 256 = .ok (.bipush 48, 2) := by decide +kernel
theorem dX7_init_258 : decode cX7_init 258 = .ok (.iastore, 1) := by decide +kernel
theorem dX7_init_259 : decode cX7_init 259 = .ok (.dup, 1) := by decide +kernel
theorem dX7_init_260 : decode cX7_init 260 = .ok (.bipush 24, 2) := by decide +kernel
theorem dX7_init_262 : decode cX7_init 262 = .ok (.bipush 32, 2) := by decide +kernel
theorem dX7_init_264 : decode cX7_init 264 = .ok (.iastore, 1) := by decide +kernel
theorem dX7_init_265 : decode cX7_init 265 = .ok (.dup, 1) := by decide +kernel
theorem dX7_init_266 : decode cX7_init 266 = .ok (.bipush 25, 2) := by decide +kernel
theorem dX7_init_268 : decode cX7_init 268 = .ok (.bipush 59, 2) := by decide +kernel
theorem dX7_init_270 : decode cX7_init 270 = .ok (.iastore, 1) := by decide +kernel
theorem dX7_init_271 : decode cX7_init 271 = .ok (.putfield 46, 3) := by decide +kernel
theorem dX7_init_274 : decode cX7_init 274 = .ok (.aload_n 0, 1) := by decide +kernel
theorem dX7_init_275 : decode cX7_init 275 = .ok (.bipush 96, 2) := by decide +kernel
theorem dX7_init_277 : decode cX7_init 277 = .ok (.newarray .int, 2) := by decide +kernel
theorem dX7_init_279 : decode cX7_init 279 = .ok (.dup, 1) := by decide +kernel
theorem dX7_init_280 : decode cX7_init 280 = .ok (.iconst 0, 1) := by decide +kernel
theorem dX7_init_281 : decode cX7_init 281 = .ok (.bipush 103, 2) := by decide +kernel
theorem dX7_init_283 : decode cX7_init 283 = .ok (.iastore, 1) := by decide +kernel
theorem dX7_init_284 : decode cX7_init 284 = .ok (.dup, 1) := by decide +kernel
theorem dX7_init_285 : decode cX7_init 285 = .ok (.iconst 1, 1) := by decide +kernel
theorem dX7_init_286 : decode cX7_init 286 = .ok (.bipush 111, 2) := by decide +kernel
theorem dX7_init_288 : decode cX7_init 288 = .ok (.iastore, 1) := by decide +kernel
theorem dX7_init_289 : decode cX7_init 289 = .ok (.dup, 1) := by decide +kernel
theorem dX7_init_290 : decode cX7_init 290 = .ok (.iconst 2, 1) := by decide +kernel
theorem dX7_init_291 : decode cX7_init 291 = .ok (.bipush 101, 2) := by decide +kernel
theorem dX7_init_293 : decode cX7_init 293 = .ok (.iastore, 1) := by decide +kernel
theorem dX7_init_294 : decode cX7_init 294 = .ok (.dup, 1) := by decide +kernel
theorem dX7_init_295 : decode cX7_init 295 = .ok (.iconst 3, 1) := by decide +kernel
theorem dX7_init_296 : decode cX7_init 296 = .ok (.bipush 115, 2) := by decide +kernel
theorem dX7_init_298 : decode cX7_init 298 = .ok (.iastore, 1) := by decide +kernel
theorem dX7_init_299 : decode cX7_init 299 = .ok (.dup, 1) := by decide +kernel
theorem dX7_init_300 : decode cX7_init 300 = .ok (.iconst 4, 1) := by decide +kernel
theorem dX7_init_301 : decode cX7_init 301 = .ok (.bipush 32, 2) := by decide +kernel
theorem dX7_init_303 : decode cX7_init 303 = .ok (.iastore, 1) := by decide +kernel
theorem dX7_init_304 : decode cX7_init 304 = .ok (.dup, 1) := by decide +kernel
theorem dX7_init_305 : decode cX7_init 305 = .ok (.iconst 5, 1) := by decide +kernel
theorem dX7_init_306 : decode cX7_init 306 = .ok (.bipush 32, 2) := by decide +kernel
theorem dX7_init_308 : decode cX7_init 308 = .ok (.iastore, 1) := by decide +kernel
theorem dX7_init_309 : decode cX7_init 309 = .ok (.dup, 1) := by decide +kernel
theorem dX7_init_310 : decode cX7_init 310 = .ok (.bipush 6, 2) := by decide +kernel
theorem dX7_init_312 : decode cX7_init 312 = .ok (.bipush 32, 2) := by decide +kernel
theorem dX7_init_314 : decode cX7_init 314 = .ok (.iastore, 1) := by decide +kernel
theorem dX7_init_315 : decode cX7_init 315 = .ok (.dup, 1) := by decide +kernel
theorem dX7_init_316 : decode cX7_init 316 = .ok (.bipush 7, 2) := by decide +kernel
theorem dX7_init_318 : decode cX7_init 318 = .ok (.bipush 32, 2) := by decide +kernel
theorem dX7_init_320 : decode cX7_init 320 = .ok (.iastore, 1) := by decide +kernel
theorem dX7_init_321 : decode cX7_init 321 = .ok (.dup, 1) := by decide +kernel
theorem dX7_init_322 : decode cX7_init 322 = .ok (.bipush 8, 2) := by decide +kernel
theorem dX7_init_324 : decode cX7_init 324 = .ok (.bipush 104, 2) := by decide +kernel
theorem dX7_init_326 : decode cX7_init 326 = .ok (.iastore, 1) := by decide +kernel
theorem dX7_init_327 : decode cX7_init 327 = .ok (.dup, 1) := by decide +kernel
theorem dX7_init_328 : decode cX7_init 328 = .ok (.bipush 9, 2) := by decide +kernel
theorem dX7_init_330 : decode cX7_init 330 = .ok (.bipush 105, 2) := by decide +kernel
theorem dX7_init_332 : decode cX7_init 332 = .ok (.iastore, 1) := by decide +kernel
theorem dX7_init_333 : decode cX7_init 333 = .ok (.dup, 1) := by decide +kernel
theorem dX7_init_334 : decode cX7_init 334 = .ok (.bipush 10, 2) := by decide +kernel
theorem dX7_init_336 : decode cX7_init 336 = .ok (.bipush 116, 2) := by decide +kernel
theorem dX7_init_338 : decode cX7_init 338 = .ok (.iastore, 1) := by decide +kernel
theorem dX7_init_339 : decode cX7_init 339 = .ok (.dup, 1) := by decide +kernel
theorem dX7_init_340 : decode cX7_init 340 = .ok (.bipush 11, 2) := by decide +kernel
theorem dX7_init_342 : decode cX7_init 342 = .ok (.bipush 115, 2) := by decide +kernel
theorem dX7_init_344 : decode cX7_init 344 = .ok (.iastore, 1) := by decide +kernel
theorem dX7_init_345 : decode cX7_init 345 = .ok (.dup, 1) := by decide +kernel
theorem dX7_init_346 : decode cX7_init 346 = .ok (.bipush 12, 2) := by decide +kernel
theorem dX7_init_348 : decode cX7_init 348 = .ok (.bipush 32, 2) := by decide +kernel
theorem dX7_init_350 : decode cX7_init 350 = .ok (.iastore, 1) := by decide +kernel
theorem dX7_init_351 : decode cX7_init 351 = .ok (.dup, 1) := by decide +kernel
theorem dX7_init_352 : decode cX7_init 352 = .ok (.bipush 13, 2) := by decide +kernel
theorem dX7_init_354 : decode cX7_init 354 = .ok (.bipush 32, 2) := by decide +kernel
theorem dX7_init_356 : decode cX7_init 356 = .ok (.iastore, 1) := by decide +kernel
theorem dX7_init_357 : decode cX7_init 357 = .ok (.dup, 1) := by decide +kernel
theorem dX7_init_358 : decode cX7_init 358 = .ok (.bipush 14, 2) := by decide +kernel
theorem dX7_init_360 : decode cX7_init 360 = .ok (.bipush 32, 2) := by decide +kernel
theorem dX7_init_362 : decode cX7_init 362 = .ok (.iastore, 1) := by decide +kernel
theorem dX7_init_363 : decode cX7_init 363 = .ok (.dup, 1) := by decide +kernel
theorem dX7_init_364 : decode cX7_init 364 = .ok (.bipush 15, 2) := by decide +kernel
theorem dX7_init_366 : decode cX7_init 366 = .ok (.bipush 32, 2) := by decide +kernel
theorem dX7_init_368 : decode cX7_init 368 = .ok (.iastore, 1) := by decide +kernel
theorem dX7_init_369 : decode cX7_init 369 = .ok (.dup, 1) := by decide +kernel
theorem dX7_init_370 : decode cX7_init 370 = .ok (.bipush 16, 2) := by decide +kernel
theorem dX7_init_372 : decode cX7_init 372 = .ok (.bipush 115, 2) := by decide +kernel
theorem dX7_init_374 : decode cX7_init 374 = .ok (.iastore, 1) := by decide +kernel
theorem dX7_init_375 : decode cX7_init 375 = .ok (.dup, 1) := by decide +kernel
theorem dX7_init_376 : decode cX7_init 376 = .ok (.bipush 17, 2) := by decide +kernel
theorem dX7_init_378 : decode cX7_init 378 = .ok (.bipush 111, 2) := by decide +kernel
theorem dX7_init_380 : decode cX7_init 380 = .ok (.iastore, 1) := by decide +kernel
theorem dX7_init_381 : decode cX7_init 381 = .ok (.dup, 1) := by decide +kernel
theorem dX7_init_382 : decode cX7_init 382 = .ok (.bipush 18, 2) := by decide +kernel
theorem dX7_init_384 : decode cX7_init 384 = .ok (.bipush 102, 2) := by decide +kernel
theorem dX7_init_386 : decode cX7_init 386 = .ok (.iastore, 1) := by decide +kernel
theorem dX7_init_387 : decode cX7_init 387 = .ok (.dup, 1) := by decide +kernel
theorem dX7_init_388 : decode cX7_init 388 = .ok (.bipush 19, 2) := by decide +kernel
theorem dX7_init_390 : decode cX7_init 390 = .ok (.bipush 116, 2) := by decide +kernel
theorem dX7_init_392 : decode cX7_init 392 = .ok (.iastore, 1) := by decide +kernel
theorem dX7_init_393 : decode cX7_init 393 = .ok (.dup, 1) := by decide +kernel
theorem dX7_init_394 : decode cX7_init 394 = .ok (.bipush 20, 2) := by decide +kernel
theorem dX7_init_396 : decode cX7_init 396 = .ok (.bipush 32, 2) := by decide +kernel
theorem dX7_init_398 : decode cX7_init 398 = .ok (.iastore, 1) := by decide +kernel
theorem dX7_init_399 : decode cX7_init 399 = .ok (.dup, 1) := by decide +kernel
theorem dX7_init_400 : decode cX7_init 400 = .ok (.bipush 21, 2) := by decide +kernel
theorem dX7_init_402 : decode cX7_init 402 = .ok (.bipush 32, 2) := by decide +kernel
theorem dX7_init_404 : decode cX7_init 404 = .ok (.iastore, 1) := by decide +kernel
theorem dX7_init_405 : decode cX7_init 405 = .ok (.dup, 1) := by decide +kernel
theorem dX7_init_406 : decode cX7_init 406 = .ok (.bipush 22, 2) := by decide +kernel
theorem dX7_init_408 : decode cX7_init 408 = .ok (.bipush 32, 2) := by decide +kernel
theorem dX7_init_410 : decode cX7_init 410 = .ok (.iastore, 1) := by decide +kernel
theorem dX7_init_411 : decode cX7_init 411 = .ok (.dup, 1) := by decide +kernel
theorem dX7_init_412 : decode cX7_init 412 = .ok (.bipush 23, 2) := by decide +kernel
theorem dX7_init_414 : decode cX7_init 414 = .ok (.bipush 32, 2) := by decide +kernel
theorem dX7_init_416 : decode cX7_init 416 = .ok (.iastore, 1) := by decide +kernel
theorem dX7_init_417 : decode cX7_init 417 = .ok (.dup, 1) := by decide +kernel
theorem dX7_init_418 : decode cX7_init 418 = .ok (.bipush 24, 2) := by decide +kernel
theorem dX7_init_420 : decode cX7_init 420 = .ok (.bipush 102, 2) := by decide +kernel
theorem dX7_init_422 : decode cX7_init 422 = .ok (.iastore, 1) := by decide +kernel
theorem dX7_init_423 : decode cX7_init 423 = .ok (.dup, 1) := by decide +kernel
theorem dX7_init_424 : decode cX7_init 424 = .ok (.bipush 25, 2) := by decide +kernel
theorem dX7_init_426 : decode cX7_init 426 = .ok (.bipush 101, 2) := by decide +kernel
theorem dX7_init_428 : decode cX7_init 428 = .ok (.iastore, 1) := by decide +kernel
theorem dX7_init_429 : decode cX7_init 429 = .ok (.dup, 1) := by decide +kernel
theorem dX7_init_430 : decode cX7_init 430 = .ok (.bipush 26, 2) := by decide +kernel
theorem dX7_init_432 : decode cX7_init 432 = .ok (.bipush 108, 2) := by decide +kernel
theorem dX7_init_434 : decode cX7_init 434 = .ok (.iastore, 1) := by decide +kernel
theorem dX7_init_435 : decode cX7_init 435 = .ok (.dup, 1) := by decide +kernel
theorem dX7_init_436 : decode cX7_init 436 = .ok (.bipush 27, 2) := by decide +kernel
theorem dX7_init_438 : decode cX7_init 438 = .ok (.bipush 116, 2) := by decide +kernel
theorem dX7_init_440 : decode cX7_init 440 = .ok (.iastore, 1) := by decide +kernel
theorem dX7_init_441 : decode cX7_init 441 = .ok (.dup, 1) := by decide +kernel
theorem dX7_init_442 : decode cX7_init 442 = .ok (.bipush 28, 2) := by decide +kernel
theorem dX7_init_444 : decode cX7_init 444 = .ok (.bipush 32, 2) := by decide +kernel
theorem dX7_init_446 : decode cX7_init 446 = .ok (.iastore, 1) := by decide +kernel
theorem dX7_init_447 : decode cX7_init 447 = .ok (.dup, 1) := by decide +kernel
theorem dX7_init_448 : decode cX7_init 448 = .ok (.bipush 29, 2) := by decide +kernel
theorem dX7_init_450 : decode cX7_init 450 = .ok (.bipush 32, 2) := by decide +kernel
theorem dX7_init_452 : decode cX7_init 452 = .ok (.iastore, 1) := by decide +kernel
theorem dX7_init_453 : decode cX7_init 453 = .ok (.dup, 1) := by decide +kernel
theorem dX7_init_454 : decode cX7_init 454 = .ok (.bipush 30, 2) := by decide +kernel
theorem dX7_init_456 : decode cX7_init 456 = .ok (.bipush 32, 2) := by decide +kernel
theorem dX7_init_458 : decode cX7_init 458 = .ok (.iastore, 1) := by decide +kernel
theorem dX7_init_459 : decode cX7_init 459 = .ok (.dup, 1) := by decide +kernel
theorem dX7_init_460 : decode cX7_init 460 = .ok (.bipush 31, 2) := by decide +kernel
theorem dX7_init_462 : decode cX7_init 462 = .ok (.bipush 32, 2) := by decide +kernel
theorem dX7_init_464 : decode cX7_init 464 = .ok (.iastore, 1) := by decide +kernel
theorem dX7_init_465 : decode cX7_init 465 = .ok (.dup, 1) := by decide +kernel
theorem dX7_init_466 : decode cX7_init 466 = .ok (.bipush 32, 2) := by decide +kernel
theorem dX7_init_468 : decode cX7_init 468 = .ok (.bipush 112, 2) := by decide +kernel
theorem dX7_init_470 : decode cX7_init 470 = .ok (.iastore, 1) := by decide +kernel
theorem dX7_init_471 : decode cX7_init 471 = .ok (.dup, 1) := by decide +kernel
theorem dX7_init_472 : decode cX7_init 472 = .ok (.bipush 33, 2) := by decide +kernel
theorem dX7_init_474 : decode cX7_init 474 = .ok (.bipush 114, 2) := by decide +kernel
theorem dX7_init_476 : decode cX7_init 476 = .ok (.iastore, 1) := by decide +kernel
theorem dX7_init_477 : decode cX7_init 477 = .ok (.dup, 1) := by decide +kernel
theorem dX7_init_478 : decode cX7_init 478 = .ok (.bipush 34, 2) := by decide +kernel
theorem dX7_init_480 : decode cX7_init 480 = .ok (.bipush 105, 2) := by decide +kernel
theorem dX7_init_482 : decode cX7_init 482 = .ok (.iastore, 1) := by decide +kernel
theorem dX7_init_483 : decode cX7_init 483 = .ok (.dup, 1) := by decide +kernel
theorem dX7_init_484 : decode cX7_init 484 = .ok (.bipush 35, 2) := by decide +kernel
theorem dX7_init_486 : decode cX7_init 486 = .ok (.bipush 100, 2) := by decide +kernel
theorem dX7_init_488 : decode cX7_init 488 = .ok (.iastore, 1) := by decide +kernel
theorem dX7_init_489 : decode cX7_init 489 = .ok (.dup, 1) := by decide +kernel
theorem dX7_init_490 : decode cX7_init 490 = .ok (.bipush 36, 2) := by decide +kernel
theorem dX7_init_492 : decode cX7_init 492 = .ok (.bipush 101, 2) := by decide +kernel
theorem dX7_init_494 : decode cX7_init 494 = .ok (.iastore, 1) := by decide +kernel
theorem dX7_init_495 : decode cX7_init 495 = .ok (.dup, 1) := by decide +kernel
theorem dX7_init_496 : decode cX7_init 496 = .ok (.bipush 37, 2) := by decide +kernel
theorem dX7_init_498 : decode cX7_init 498 = .ok (.bipush 32, 2) := by decide +kernel
theorem dX7_init_500 : decode cX7_init 500 = .ok (.iastore, 1) := by decide +kernel
theorem dX7_init_501 : decode cX7_init 501 = .ok (.dup, 1) := by decide +kernel
theorem dX7_init_502 : decode cX7_init 502 = .ok (.bipush 38, 2) := by decide +kernel
theorem dX7_init_504 : decode cX7_init 504 = .ok (.bipush 32, 2) := by decide +kernel
theorem dX7_init_506 : decode cX7_init 506 = .ok (.iastore, 1) := by decide +kernel
theorem dX7_init_507 : decode cX7_init 507 = .ok (.dup, 1) := by decide +kernel
theorem dX7_init_508 : decode cX7_init 508 = .ok (.bipush 39, 2) := by decide +kernel
theorem dX7_init_510 : decode cX7_init 510 = .ok (.bipush 32, 2) := by decide +kernel
theorem dX7_init_512 : decode cX7_init 512 = .ok (.iastore, 1) := by decide +kernel
theorem dX7_init_513 : decode cX7_init 513 = .ok (.dup, 1) := by decide +kernel
theorem dX7_init_514 : decode cX7_init 514 = .ok (.bipush 40, 2) := by decide +kernel
theorem dX7_init_516 : decode cX7_init 516 = .ok (.bipush 114, 2) := by decide +kernel
theorem dX7_init_518 : decode cX7_init 518 = .ok (.iastore, 1) := by decide +kernel
theorem dX7_init_519 : decode cX7_init 519 = .ok (.dup, 1) := by decide +kernel
theorem dX7_init_520 : decode cX7_init 520 = .ok (.bipush 41, 2) := by decide +kernel
theorem dX7_init_522 : decode cX7_init 522 = .ok (.bipush 111, 2) := by decide +kernel
theorem dX7_init_524 : decode cX7_init 524 = .ok (.iastore, 1) := by decide +kernel
theorem dX7_init_525 : decode cX7_init 525 = .ok (.dup, 1) := by decide +kernel
theorem dX7_init_526 : decode cX7_init 526 = .ok (.bipush 42, 2) := by decide +kernel
theorem dX7_init_528 : decode cX7_init 528 = .ok (.bipush 117, 2) := by decide +kernel
theorem dX7_init_530 : decode cX7_init 530 = .ok (.iastore, 1) := by decide +kernel
theorem dX7_init_531 : decode cX7_init 531 = .ok (.dup, 1) := by decide +kernel
theorem dX7_init_532 : decode cX7_init 532 = .ok (.bipush 43, 2) := by decide +kernel
theorem dX7_init_534 : decode cX7_init 534 = .ok (.bipush 110, 2) := by decide +kernel
theorem dX7_init_536 : decode cX7_init 536 = .ok (.iastore, 1) := by decide +kernel
theorem dX7_init_537 : decode cX7_init 537 = .ok (.dup, 1) := by decide +kernel
theorem dX7_init_538 : decode cX7_init 538 = .ok (.bipush 44, 2) := by decide +kernel
theorem dX7_init_540 : decode cX7_init 540 = .ok (.bipush 100, 2) := by decide +kernel
theorem dX7_init_542 : decode cX7_init 542 = .ok (.iastore, 1) := by decide +kernel
theorem dX7_init_543 : decode cX7_init 543 = .ok (.dup, 1) := by decide +kernel
theorem dX7_init_544 : decode cX7_init 544 = .ok (.bipush 45, 2) := by decide +kernel
theorem dX7_init_546 : decode cX7_init 546 = .ok (.bipush 32, 2) := by decide +kernel
theorem dX7_init_548 : decode cX7_init 548 = .ok (.iastore, 1) := by decide +kernel
theorem dX7_init_549 : decode cX7_init 549 = .ok (.dup, 1) := by decide +kernel
theorem dX7_init_550 : decode cX7_init 550 = .ok (.bipush 46, 2) := by decide +kernel
theorem dX7_init_552 : decode cX7_init 552 = .ok (.bipush 32, 2) := by decide +kernel
theorem dX7_init_554 : decode cX7_init 554 = .ok (.iastore, 1) := by decide +kernel
theorem dX7_init_555 : decode cX7_init 555 = .ok (.dup, 1) := by decide +kernel
theorem dX7_init_556 : decode cX7_init 556 = .ok (.bipush 47, 2) := by decide +kernel
theorem dX7_init_558 : decode cX7_init 558 = .ok (.bipush 32, 2) := by decide +kernel
theorem dX7_init_560 : decode cX7_init 560 = .ok (.iastore, 1) := by decide +kernel
theorem dX7_init_561 : decode cX7_init 561 = .ok (.dup, 1) := by decide +kernel
theorem dX7_init_562 : decode cX7_init 562 = .ok (.bipush 48, 2) := by decide +kernel
theorem dX7_init_564 : decode cX7_init 564 = .ok (.bipush 117, 2) := by decide +kernel
theorem dX7_init_566 : decode cX7_init 566 = .ok (.iastore, 1) := by decide +kernel
theorem dX7_init_567 : decode cX7_init 567 = .ok (.dup, 1) := by decide +kernel
theorem dX7_init_568 : decode cX7_init 568 = .ok (.bipush 49, 2) := by decide +kernel
theorem dX7_init_570 : decode cX7_init 570 = .ok (.bipush 112, 2) := by decide +kernel
theorem dX7_init_572 : decode cX7_init 572 = .ok (.iastore, 1) := by decide +kernel
theorem dX7_init_573 : decode cX7_init 573 = .ok (.dup, 1) := by decide +kernel
theorem dX7_init_574 : decode cX7_init 574 = .ok (.bipush 50, 2) := by decide +kernel
theorem dX7_init_576 : decode cX7_init 576 = .ok (.bipush 32, 2) := by decide +kernel
theorem dX7_init_578 : decode cX7_init 578 = .ok (.iastore, 1) := by decide +kernel
theorem dX7_init_579 : decode cX7_init 579 = .ok (.dup, 1) := by decide +kernel
theorem dX7_init_580 : decode cX7_init 580 = .ok (.bipush 51, 2) := by decide +kernel
theorem dX7_init_582 : decode cX7_init 582 = .ok (.bipush 32, 2) := by decide +kernel
theorem dX7_init_584 : decode cX7_init 584 = .ok (.iastore, 1) := by decide +kernel
theorem dX7_init_585 : decode cX7_init 585 = .ok (.dup, 1) := by decide +kernel
theorem dX7_init_586 : decode cX7_init 586 = .ok (.bipush 52, 2) := by decide +kernel
theorem dX7_init_588 : decode cX7_init 588 = .ok (.bipush 32, 2) := by decide +kernel
theorem dX7_init_590 : decode cX7_init 590 = .ok (.iastore, 1) := by decide +kernel
theorem dX7_init_591 : decode cX7_init 591 = .ok (.dup, 1) := by decide +kernel
theorem dX7_init_592 : decode cX7_init 592 = .ok (.bipush 53, 2) := by decide +kernel
theorem dX7_init_594 : decode cX7_init 594 = .ok (.bipush 32, 2) := by decide +kernel
theorem dX7_init_596 : decode cX7_init 596 = .ok (.iastore, 1) := by decide +kernel
theorem dX7_init_597 : decode cX7_init 597 = .ok (.dup, 1) := by decide +kernel
theorem dX7_init_598 : decode cX7_init 598 = .ok (.bipush 54, 2) := by decide +kernel
theorem dX7_init_600 : decode cX7_init 600 = .ok (.bipush 32, 2) := by decide +kernel
theorem dX7_init_602 : decode cX7_init 602 = .ok (.iastore, 1) := by decide +kernel
theorem dX7_init_603 : decode cX7_init 603 = .ok (.dup, 1) := by decide +kernel
theorem dX7_init_604 : decode cX7_init 604 = .ok (.bipush 55, 2) := by decide +kernel
theorem dX7_init_606 : decode cX7_init 606 = .ok (.bipush 32, 2) := by decide +kernel
theorem dX7_init_608 : decode cX7_init 608 = .ok (.iastore, 1) := by decide +kernel
theorem dX7_init_609 : decode cX7_init 609 = .ok (.dup, 1) := by decide +kernel
theorem dX7_init_610 : decode cX7_init 610 = .ok (.bipush 56, 2) := by decide +kernel
theorem dX7_init_612 : decode cX7_init 612 = .ok (.bipush 98, 2) := by decide +kernel
theorem dX7_init_614 : decode cX7_init 614 = .ok (.iastore, 1) := by decide +kernel
theorem dX7_init_615 : decode cX7_init 615 = .ok (.dup, 1) := by decide +kernel
theorem dX7_init_616 : decode cX7_init 616 = .ok (.bipush 57, 2) := by decide +kernel
theorem dX7_init_618 : decode cX7_init 618 = .ok (.bipush 108, 2) := by decide +kernel
theorem dX7_init_620 : decode cX7_init 620 = .ok (.iastore, 1) := by decide +kernel
theorem dX7_init_621 : decode cX7_init 621 = .ok (.dup, 1) := by decide +kernel
theorem dX7_init_622 : decode cX7_init 622 = .ok (.bipush 58, 2) := by decide +kernel
theorem dX7_init_624 : decode cX7_init 624 = .ok (.bipush 111, 2) := by decide +kernel
theorem dX7_init_626 : decode cX7_init 626 = .ok (.iastore, 1) := by decide +kernel
theorem dX7_init_627 : decode cX7_init 627 = .ok (.dup, 1) := by decide +kernel
theorem dX7_init_628 : decode cX7_init 628 = .ok (.bipush 59, 2) := by decide +kernel
theorem dX7_init_630 : decode cX7_init 630 = .ok (.bipush 119, 2) := by decide +kernel
theorem dX7_init_632 : decode cX7_init 632 = .ok (.iastore, 1) := by decide +kernel
theorem dX7_init_633 : decode cX7_init 633 = .ok (.dup, 1) := by decide +kernel
theorem dX7_init_634 : decode cX7_init 634 = .ok (.bipush 60, 2) := by decide +kernel
theorem dX7_init_636 : decode cX7_init 636 = .ok (.bipush 115, 2) := by decide +kernel
theorem dX7_init_638 : decode cX7_init 638 = .ok (.iastore, 1) := by decide +kernel
theorem dX7_init_639 : decode cX7_init 639 = .ok (.dup, 1) := by decide +kernel
theorem dX7_init_640 : decode cX7_init 640 = .ok (.bipush 61, 2) := by decide +kernel
theorem dX7_init_642 : decode cX7_init 642 = .ok (.bipush 32, 2) := by decide +kernel
theorem dX7_init_644 : decode cX7_init 644 = .ok (.iastore, 1) := by decide +kernel
theorem dX7_init_645 : decode cX7_init 645 = .ok (.dup, 1) := by decide +kernel
theorem dX7_init_646 : decode cX7_init 646 = .ok (.bipush 62, 2) := by decide +kernel
theorem dX7_init_648 : decode cX7_init 648 = .ok (.bipush 32, 2) := by decide +kernel
theorem dX7_init_650 : decode cX7_init 650 = .ok (.iastore, 1) := by decide +kernel
theorem dX7_init_651 : decode cX7_init 651 = .ok (.dup, 1) := by decide +kernel
theorem dX7_init_652 : decode cX7_init 652 = .ok (.bipush 63, 2) := by decide +kernel
theorem dX7_init_654 : decode cX7_init 654 = .ok (.bipush 32, 2) := by decide +kernel
theorem dX7_init_656 : decode cX7_init 656 = .ok (.iastore, 1) := by decide +kernel
theorem dX7_init_657 : decode cX7_init 657 = .ok (.dup, 1) := by decide +kernel
theorem dX7_init_658 : decode cX7_init 658 = .ok (.bipush 64, 2) := by decide +kernel
theorem dX7_init_660 : decode cX7_init 660 = .ok (.bipush 109, 2) := by decide +kernel
theorem dX7_init_662 : decode cX7_init 662 = .ok (.iastore, 1) := by decide +kernel
theorem dX7_init_663 : decode cX7_init 663 = .ok (.dup, 1) := by decide +kernel
theorem dX7_init_664 : decode cX7_init 664 = .ok (.bipush 65, 2) := by decide +kernel
theorem dX7_init_666 : decode cX7_init 666 = .ok (.bipush 111, 2) := by decide +kernel
theorem dX7_init_668 : decode cX7_init 668 = .ok (.iastore, 1) := by decide +kernel
theorem dX7_init_669 : decode cX7_init 669 = .ok (.dup, 1) := by decide +kernel
theorem dX7_init_670 : decode cX7_init 670 = .ok (.bipush 66, 2) := by decide +kernel
theorem dX7_init_672 : decode cX7_init 672 = .ok (.bipush 114, 2) := by decide +kernel
theorem dX7_init_674 : decode cX7_init 674 = .ok (.iastore, 1) := by decide +kernel
theorem dX7_init_675 : decode cX7_init 675 = .ok (.dup, 1) := by decide +kernel
theorem dX7_init_676 : decode cX7_init 676 = .ok (.bipush 67, 2) := by decide +kernel
theorem dX7_init_678 : decode cX7_init 678 = .ok (.bipush 101, 2) := by decide +kernel
theorem dX7_init_680 : decode cX7_init 680 = .ok (.iastore, 1) := by decide +kernel
theorem dX7_init_681 : decode cX7_init 681 = .ok (.dup, 1) := by decide +kernel
theorem dX7_init_682 : decode cX7_init 682 = .ok (.bipush 68, 2) := by decide +kernel
theorem dX7_init_684 : decode cX7_init 684 = .ok (.bipush 32, 2) := by decide +kernel
theorem dX7_init_686 : decode cX7_init 686 = .ok (.iastore, 1) := by decide +kernel
theorem dX7_init_687 : decode cX7_init 687 = .ok (.dup, 1) := by decide +kernel
theorem dX7_init_688 : decode cX7_init 688 = .ok (.bipush 69, 2) := by decide +kernel
theorem dX7_init_690 : decode cX7_init 690 = .ok (.bipush 32, 2) := by decide +kernel
theorem dX7_init_692 : decode cX7_init 692 = .ok (.iastore, 1) := by decide +kernel
theorem dX7_init_693 : decode cX7_init 693 = .ok (.dup, 1) := by decide +kernel
theorem dX7_init_694 : decode cX7_init 694 = .ok (.bipush 70, 2) := by decide +kernel
theorem dX7_init_696 : decode cX7_init 696 = .ok (.bipush 32, 2) := by decide +kernel
theorem dX7_init_698 : decode cX7_init 698 = .ok (.iastore, 1) := by decide +kernel
theorem dX7_init_699 : decode cX7_init 699 = .ok (.dup, 1) := by decide +kernel
theorem dX7_init_700 : decode cX7_init 700 = .ok (.bipush 71, 2) := by decide +kernel
theorem dX7_init_702 : decode cX7_init 702 = .ok (.bipush 32, 2) := by decide +kernel
theorem dX7_init_704 : decode cX7_init 704 = .ok (.iastore, 1) := by decide +kernel
theorem dX7_init_705 : decode cX7_init 705 = .ok (.dup, 1) := by decide +kernel
theorem dX7_init_706 : decode cX7_init 706 = .ok (.bipush 72, 2) := by decide +kernel
theorem dX7_init_708 : decode cX7_init 708 = .ok (.bipush 111, 2) := by decide +kernel
theorem dX7_init_710 : decode cX7_init 710 = .ok (.iastore, 1) := by decide +kernel
theorem dX7_init_711 : decode cX7_init 711 = .ok (.dup, 1) := by decide +kernel
theorem dX7_init_712 : decode cX7_init 712 = .ok (.bipush 73, 2) := by decide +kernel
theorem dX7_init_714 : decode cX7_init 714 = .ok (.bipush 114, 2) := by decide +kernel
theorem dX7_init_716 : decode cX7_init 716 = .ok (.iastore, 1) := by decide +kernel
theorem dX7_init_717 : decode cX7_init 717 = .ok (.dup, 1) := by decide +kernel
theorem dX7_init_718 : decode cX7_init 718 = .ok (.bipush 74, 2) := by decide +kernel
theorem dX7_init_720 : decode cX7_init 720 = .ok (.bipush 32, 2) := by decide +kernel
theorem dX7_init_722 : decode cX7_init 722 = .ok (.iastore, 1) := by decide +kernel
theorem dX7_init_723 : decode cX7_init 723 = .ok (.dup, 1) := by decide +kernel
theorem dX7_init_724 : decode cX7_init 724 = .ok (.bipush 75, 2) := by decide +kernel
theorem dX7_init_726 : decode cX7_init 726 = .ok (.bipush 32, 2) := by decide +kernel
theorem dX7_init_728 : decode cX7_init 728 = .ok (.iastore, 1) := by decide +kernel
theorem dX7_init_729 : decode cX7_init 729 = .ok (.dup, 1) := by decide +kernel
theorem dX7_init_730 : decode cX7_init 730 = .ok (.bipush 76, 2) := by decide +kernel
theorem dX7_init_732 : decode cX7_init 732 = .ok (.bipush 32, 2) := by decide +kernel
theorem dX7_init_734 : decode cX7_init 734 = .ok (.iastore, 1) := by decide +kernel
theorem dX7_init_735 : decode cX7_init 735 = .ok (.dup, 1) := by decide +kernel
theorem dX7_init_736 : decode cX7_init 736 = .ok (.bipush 77, 2) := by decide +kernel
theorem dX7_init_738 : decode cX7_init 738 = .ok (.bipush 32, 2) := by decide +kernel
theorem dX7_init_740 : decode cX7_init 740 = .ok (.iastore, 1) := by decide +kernel
theorem dX7_init_741 : decode cX7_init 741 = .ok (.dup, 1) := by decide +kernel
theorem dX7_init_742 : decode cX7_init 742 = .ok (.bipush 78, 2) := by decide +kernel
theorem dX7_init_744 : decode cX7_init 744 = .ok (.bipush 32, 2) := by decide +kernel
theorem dX7_init_746 : decode cX7_init 746 = .ok (.iastore, 1) := by decide +kernel
theorem dX7_init_747 : decode cX7_init 747 = .ok (.dup, 1) := by decide +kernel
theorem dX7_init_748 : decode cX7_init 748 = .ok (.bipush 79, 2) := by decide +kernel
theorem dX7_init_750 : decode cX7_init 750 = .ok (.bipush 32, 2) := by decide +kernel
theorem dX7_init_752 : decode cX7_init 752 = .ok (.iastore, 1) := by decide +kernel
theorem dX7_init_753 : decode cX7_init 753 = .ok (.dup, 1) := by decide +kernel
theorem dX7_init_754 : decode cX7_init 754 = .ok (.bipush 80, 2) := by decide +kernel
theorem dX7_init_756 : decode cX7_init 756 = .ok (.bipush 97, 2) := by decide +kernel
theorem dX7_init_758 : decode cX7_init 758 = .ok (.iastore, 1) := by decide +kernel
theorem dX7_init_759 : decode cX7_init 759 = .ok (.dup, 1) := by decide +kernel
theorem dX7_init_760 : decode cX7_init 760 = .ok (.bipush 81, 2) := by decide +kernel
theorem dX7_init_762 : decode cX7_init 762 = .ok (.bipush 110, 2) := by decide +kernel
theorem dX7_init_764 : decode cX7_init 764 = .ok (.iastore, 1) := by decide +kernel
theorem dX7_init_765 : decode cX7_init 765 = .ok (.dup, 1) := by decide +kernel
theorem dX7_init_766 : decode cX7_init 766 = .ok (.bipush 82, 2) := by decide +kernel
theorem dX7_init_768 : decode cX7_init 768 = .ok (.bipush 100, 2) := by decide +kernel
theorem dX7_init_770 : decode cX7_init 770 = .ok (.iastore, 1) := by decide +kernel
theorem dX7_init_771 : decode cX7_init 771 = .ok (.dup, 1) := by decide +kernel
theorem dX7_init_772 : decode cX7_init 772 = .ok (.bipush 83, 2) := by decide +kernel
theorem dX7_init_774 : decode cX7_init 774 = .ok (.bipush 32, 2) := by decide +kernel
theorem dX7_init_776 : decode cX7_init 776 = .ok (.iastore, 1) := by decide +kernel
theorem dX7_init_777 : decode cX7_init 777 = .ok (.dup, 1) := by decide +kernel
theorem dX7_init_778 : decode cX7_init 778 = .ok (.bipush 84, 2) := by decide +kernel
theorem dX7_init_780 : decode cX7_init 780 = .ok (.bipush 32, 2) := by decide +kernel
theorem dX7_init_782 : decode cX7_init 782 = .ok (.iastore, 1) := by decide +kernel
theorem dX7_init_783 : decode cX7_init 783 = .ok (.dup, 1) := by decide +kernel
theorem dX7_init_784 : decode cX7_init 784 = .ok (.bipush 85, 2) := by decide +kernel
theorem dX7_init_786 : decode cX7_init 786 = .ok (.bipush 32, 2) := by decide +kernel
theorem dX7_init_788 : decode cX7_init 788 = .ok (.iastore, 1) := by decide +kernel
theorem dX7_init_789 : decode cX7_init 789 = .ok (.dup, 1) := by decide +kernel
theorem dX7_init_790 : decode cX7_init 790 = .ok (.bipush 86, 2) := by decide +kernel
theorem dX7_init_792 : decode cX7_init 792 = .ok (.bipush 32, 2) := by decide +kernel
theorem dX7_init_794 : decode cX7_init 794 = .ok (.iastore, 1) := by decide +kernel
theorem dX7_init_795 : decode cX7_init 795 = .ok (.dup, 1) := by decide +kernel
theorem dX7_init_796 : decode cX7_init 796 = .ok (.bipush 87, 2) := by decide +kernel
theorem dX7_init_798 : decode cX7_init 798 = .ok (.bipush 32, 2) := by decide +kernel
theorem dX7_init_800 : decode cX7_init 800 = .ok (.iastore, 1) := by decide +kernel
theorem dX7_init_801 : decode cX7_init 801 = .ok (.dup, 1) := by decide +kernel
theorem dX7_init_802 : decode cX7_init 802 = .ok (.bipush 88, 2) := by decide +kernel
theorem dX7_init_804 : decode cX7_init 804 = .ok (.bipush 110, 2) := by decide +kernel
theorem dX7_init_806 : decode cX7_init 806 = .ok (.iastore, 1) := by decide +kernel
theorem dX7_init_807 : decode cX7_init 807 = .ok (.dup, 1) := by decide +kernel
theorem dX7_init_808 : decode cX7_init 808 = .ok (.bipush 89, 2) := by decide +kernel
theorem dX7_init_810 : decode cX7_init 810 = .ok (.bipush 111, 2) := by decide +kernel
theorem dX7_init_812 : decode cX7_init 812 = .ok (.iastore, 1) := by decide +kernel
theorem dX7_init_813 : decode cX7_init 813 = .ok (.dup, 1) := by decide +kernel
theorem dX7_init_814 : decode cX7_init 814 = .ok (.bipush 90, 2) := by decide +kernel
theorem dX7_init_816 : decode cX7_init 816 = .ok (.bipush 116, 2) := by decide +kernel
theorem dX7_init_818 : decode cX7_init 818 = .ok (.iastore, 1) := by decide +kernel
theorem dX7_init_819 : decode cX7_init 819 = .ok (.dup, 1) := by decide +kernel
theorem dX7_init_820 : decode cX7_init 820 = .ok (.bipush 91, 2) := by decide +kernel
theorem dX7_init_822 : decode cX7_init 822 = .ok (.bipush 32, 2) := by decide +kernel
theorem dX7_init_824 : decode cX7_init 824 = .ok (.iastore, 1) := by decide +kernel
theorem dX7_init_825 : decode cX7_init 825 = .ok (.dup, 1) := by decide +kernel
theorem dX7_init_826 : decode cX7_init 826 = .ok (.bipush 92, 2) := by decide +kernel
theorem dX7_init_828 : decode cX7_init 828 = .ok (.bipush 32, 2) := by decide +kernel
theorem dX7_init_830 : decode cX7_init 830 = .ok (.iastore, 1) := by decide +kernel
theorem dX7_init_831 : decode cX7_init 831 = .ok (.dup, 1) := by decide +kernel
theorem dX7_init_832 : decode cX7_init 832 = .ok (.bipush 93, 2) := by decide +kernel
theorem dX7_init_834 : decode cX7_init 834 = .ok (.bipush 32, 2) := by decide +kernel
theorem dX7_init_836 : decode cX7_init 836 = .ok (.iastore, 1) := by decide +kernel
theorem dX7_init_837 : decode cX7_init 837 = .ok (.dup, 1) := by decide +kernel
theorem dX7_init_838 : decode cX7_init 838 = .ok (.bipush 94, 2) := by decide +kernel
theorem dX7_init_840 : decode cX7_init 840 = .ok (.bipush 32, 2) := by decide +kernel
theorem dX7_init_842 : decode cX7_init 842 = .ok (.iastore, 1) := by decide +kernel
theorem dX7_init_843 : decode cX7_init 843 = .ok (.dup, 1) := by decide +kernel
theorem dX7_init_844 : decode cX7_init 844 = .ok (.bipush 95, 2) := by decide +kernel
theorem dX7_init_846 : decode cX7_init 846 = .ok (.bipush 32, 2) := by decide +kernel
theorem dX7_init_848 : decode cX7_init 848 = .ok (.iastore, 1) := by decide +kernel
theorem dX7_init_849 : decode cX7_init 849 = .ok (.putfield 49, 3) := by decide +kernel
theorem dX7_init_852 : decode cX7_init 852 = .ok (.aload_n 0, 1) := by decide +kernel
theorem dX7_init_853 : decode cX7_init 853 = .ok (.sipush 200, 3) := by decide +kernel
theorem dX7_init_856 : decode cX7_init 856 = .ok (.newarray .int, 2) := by decide +kernel
theorem dX7_init_858 : decode cX7_init 858 = .ok (.putfield 52, 3) := by decide +kernel
theorem dX7_init_861 : decode cX7_init 861 = .ok (.aload_n 0, 1) := by decide +kernel
theorem dX7_init_862 : decode cX7_init 862 = .ok (.sipush 200, 3) := by decide +kernel
theorem dX7_init_865 : decode cX7_init 865 = .ok (.newarray .int, 2) := by decide +kernel
theorem dX7_init_867 : decode cX7_init 867 = .ok (.putfield 55, 3) := by decide +kernel
theorem dX7_init_870 : decode cX7_init 870 = .ok (.aload_n 0, 1) := by decide +kernel
theorem dX7_init_871 : decode cX7_init 871 = .ok (.bipush 6, 2) := by decide +kernel
theorem dX7_init_873 : decode cX7_init 873 = .ok (.newarray .int, 2) := by decide +kernel
theorem dX7_init_875 : decode cX7_init 875 = .ok (.putfield 58, 3) := by decide +kernel
theorem dX7_init_878 : decode cX7_init 878 = .ok (.aload_n 0, 1) := by decide +kernel
theorem dX7_init_879 : decode cX7_init 879 = .ok (.bipush 61, 2) := by decide +kernel
theorem dX7_init_881 : decode cX7_init 881 = .ok (.newarray .int, 2) := by decide +kernel
theorem dX7_init_883 : decode cX7_init 883 = .ok (.putfield 61, 3) := by decide +kernel
theorem dX7_init_886 : decode cX7_init 886 = .ok (.iconst 0, 1) := by decide +kernel
theorem dX7_init_887 : decode cX7_init 887 = .ok (.istore_n 1, 1) := by decide +kernel
theorem dX7_init_888 : decode cX7_init 888 = .ok (.iload_n 1, 1) := by decide +kernel
theorem dX7_init_889 : decode cX7_init 889 = .ok (.bipush 26, 2) := by decide +kernel
theorem dX7_init_891 : decode cX7_init 891 = .ok (.if_icmp .ge 21, 3) := by decide +kernel
theorem dX7_init_894 : decode cX7_init 894 = .ok (.aload_n 0, 1) := by decide +kernel
theorem dX7_init_895 : decode cX7_init 895 = .ok (.getfield 22, 3) := by decide +kernel
theorem dX7_init_898 : decode cX7_init 898 = .ok (.iload_n 1, 1) := by decide +kernel
theorem dX7_init_899 : decode cX7_init 899 = .ok (.aload_n 0, 1) := by decide +kernel
theorem dX7_init_900 : decode cX7_init 900 = .ok (.getfield 46, 3) := by decide +kernel
theorem dX7_init_903 : decode cX7_init 903 = .ok (.iload_n 1, 1) := by decide +kernel
theorem dX7_init_904 : decode cX7_init 904 = .ok (.iaload, 1) := by decide +kernel
theorem dX7_init_905 : decode cX7_init 905 = .ok (.iastore, 1) := by decide +kernel
theorem dX7_init_906 : decode cX7_init 906 = .ok (.iinc 1 1, 3) := by decide +kernel
theorem dX7_init_909 : decode cX7_init 909 = .ok (.goto (-21), 3) := by decide +kernel
theorem dX7_init_912 : decode cX7_init 912 = .ok (.aload_n 0, 1) := by decide +kernel
theorem dX7_init_913 : decode cX7_init 913 = .ok (.bipush 26, 2) := by decide +kernel
theorem dX7_init_915 : decode cX7_init 915 = .ok (.putfield 64, 3) := by decide +kernel
theorem dX7_init_918 : decode cX7_init 918 = .ok (.aload_n 0, 1) := by decide +kernel
theorem dX7_init_919 : decode cX7_init 919 = .ok (.invokevirtual 68, 3) := by decide +kernel
theorem dX7_init_922 : decode cX7_init 922 = .ok (.pop, 1) := by decide +kernel
theorem dX7_init_923 : decode cX7_init 923 = .ok (.return_, 1) := by decide +kernel
theorem dX7_in_0 : decode cX7_in 0 = .ok (.iload_n 0, 1) := by decide +kernel
theorem dX7_in_1 : decode cX7_in 1 = .ok (.iload_n 1, 1) := by decide +kernel
theorem dX7_in_2 : decode cX7_in 2 = .ok (.if_icmp .lt 12, 3) := by decide +kernel
theorem dX7_in_5 : decode cX7_in 5 = .ok (.iload_n 0, 1) := by decide +kernel
theorem dX7_in_6 : decode cX7_in 6 = .ok (.iload_n 2, 1) := by decide +kernel
theorem dX7_in_7 : decode cX7_in 7 = .ok (.if_icmp .gt 7, 3) := by decide +kernel
theorem dX7_in_10 : decode cX7_in 10 = .ok (.iconst 1, 1) := by decide +kernel
theorem dX7_in_11 : decode cX7_in 11 = .ok (.goto 4, 3) := by decide +kernel
theorem dX7_in_14 : decode cX7_in 14 = .ok (.iconst 0, 1) := by decide +kernel
theorem dX7_in_15 : decode cX7_in 15 = .ok (.ireturn, 1) := by decide +kernel
theorem dX7_within_0 : decode cX7_within 0 = .ok (.iload_n 0, 1) := by decide +kernel
theorem dX7_within_1 : decode cX7_within 1 = .ok (.iload_n 1, 1) := by decide +kernel
theorem dX7_within_2 : decode cX7_within 2 = .ok (.if_icmp .ge 7, 3) := by decide +kernel
theorem dX7_within_5 : decode cX7_within 5 = .ok (.iload_n 1, 1) := by decide +kernel
theorem dX7_within_6 : decode cX7_within 6 = .ok (.goto 13, 3) := by decide +kernel
theorem dX7_within_9 : decode cX7_within 9 = .ok (.iload_n 0, 1) := by decide +kernel
theorem dX7_within_10 : decode cX7_within 10 = .ok (.iload_n 2, 1) := by decide +kernel
theorem dX7_within_11 : decode cX7_within 11 = .ok (.if_icmp .le 7, 3) := by decide +kernel
theorem dX7_within_14 : decode cX7_within 14 = .ok (.iload_n 2, 1) := by decide +kernel
theorem dX7_within_15 : decode cX7_within 15 = .ok (.goto 4, 3) := by decide +kernel
theorem dX7_within_18 : decode cX7_within 18 = .ok (.iload_n 0, 1) := by decide +kernel
theorem dX7_within_19 : decode cX7_within 19 = .ok (.ireturn, 1) := by decide +kernel
theorem dX7_onesOf_0 : decode cX7_onesOf 0 = .ok (.iconst 0, 1) := by decide +kernel
theorem dX7_onesOf_1 : decode cX7_onesOf 1 = .ok (.istore_n 1, 1) := by decide +kernel
theorem dX7_onesOf_2 : decode cX7_onesOf 2 = .ok (.iconst 0, 1) := by decide +kernel
theorem dX7_onesOf_3 : decode cX7_onesOf 3 = .ok (.istore_n 2, 1) := by decide +kernel
theorem dX7_onesOf_4 : decode cX7_onesOf 4 = .ok (.iload_n 2, 1) := by decide +kernel
theorem dX7_onesOf_5 : decode cX7_onesOf 5 = .ok (.bipush 6, 2) := by decide +kernel
theorem dX7_onesOf_7 : decode cX7_onesOf 7 = .ok (.if_icmp .ge 17, 3) := by decide +kernel
theorem dX7_onesOf_10 : decode cX7_onesOf 10 = .ok (.iload_n 1, 1) := by decide +kernel
theorem dX7_onesOf_11 : decode cX7_onesOf 11 = .ok (.iload_n 0, 1) := by decide +kernel
theorem dX7_onesOf_12 : decode cX7_onesOf 12 = .ok (.iload_n 2, 1) := by decide +kernel
theorem dX7_onesOf_13 : decode cX7_onesOf 13 = .ok (.ishr, 1) := by decide +kernel
theorem dX7_onesOf_14 : decode cX7_onesOf 14 = .ok (.iconst 1, 1) := by decide +kernel
theorem dX7_onesOf_15 : decode cX7_onesOf 15 = .ok (.iand, 1) := by decide +kernel
theorem dX7_onesOf_16 : decode cX7_onesOf 16 = .ok (.iadd, 1) := by decide +kernel
theorem dX7_onesOf_17 : decode cX7_onesOf 17 = .ok (.istore_n 1, 1) := by decide +kernel
theorem dX7_onesOf_18 : decode cX7_onesOf 18 = .ok (.iinc 2 1, 3) := by decide +kernel
theorem dX7_onesOf_21 : decode cX7_onesOf 21 = .ok (.goto (-17), 3) := by decide +kernel
theorem dX7_onesOf_24 : decode cX7_onesOf 24 = .ok (.iload_n 1, 1) := by decide +kernel
theorem dX7_onesOf_25 : decode cX7_onesOf 25 = .ok (.ireturn, 1) := by decide +kernel
theorem dX7_isOne_0 : decode cX7_isOne 0 = .ok (.iload_n 1, 1) := by decide +kernel
theorem dX7_isOne_1 : decode cX7_isOne 1 = .ok (.iconst 0, 1) := by decide +kernel
theorem dX7_isOne_2 : decode cX7_isOne 2 = .ok (.aload_n 0, 1) := by decide +kernel
theorem dX7_isOne_3 : decode cX7_isOne 3 = .ok (.getfield 72, 3) := by decide +kernel
theorem dX7_isOne_6 : decode cX7_isOne 6 = .ok (.iconst 1, 1) := by decide +kernel
theorem dX7_isOne_7 : decode cX7_isOne 7 = .ok (.isub, 1) := by decide +kernel
theorem dX7_isOne_8 : decode cX7_isOne 8 = .ok (.invokestatic 75, 3) := by decide +kernel
theorem dX7_isOne_11 : decode cX7_isOne 11 = .ok (.ireturn, 1) := by decide +kernel
theorem dX7_areTwo_0 : decode cX7_areTwo 0 = .ok (.aload_n 0, 1) := by decide +kernel
theorem dX7_areTwo_1 : decode cX7_areTwo 1 = .ok (.iload_n 1, 1) := by decide +kernel
theorem dX7_areTwo_2 : decode cX7_areTwo 2 = .ok (.invokevirtual 79, 3) := by decide +kernel
theorem dX7_areTwo_5 : decode cX7_areTwo 5 = .ok (.ifCond .eq 20, 3) := by decide +kernel
theorem dX7_areTwo_8 : decode cX7_areTwo 8 = .ok (.aload_n 0, 1) := by decide +kernel
theorem dX7_areTwo_9 : decode cX7_areTwo 9 = .ok (.iload_n 2, 1) := by decide +kernel
theorem dX7_areTwo_10 : decode cX7_areTwo 10 = .ok (.invokevirtual 79, 3) := by decide +kernel
theorem dX7_areTwo_13 : decode cX7_areTwo 13 = .ok (.ifCond .eq 12, 3) := by decide +kernel
theorem dX7_areTwo_16 : decode cX7_areTwo 16 = .ok (.iload_n 1, 1) := by decide +kernel
theorem dX7_areTwo_17 : decode cX7_areTwo 17 = .ok (.iload_n 2, 1) := by decide +kernel
theorem dX7_areTwo_18 : decode cX7_areTwo 18 = .ok (.if_icmp .eq 7, 3) := by decide +kernel
theorem dX7_areTwo_21 : decode cX7_areTwo 21 = .ok (.iconst 1, 1) := by decide +kernel
theorem dX7_areTwo_22 : decode cX7_areTwo 22 = .ok (.goto 4, 3) := by decide +kernel
theorem dX7_areTwo_25 : decode cX7_areTwo 25 = .ok (.iconst 0, 1) := by decide +kernel
theorem dX7_areTwo_26 : decode cX7_areTwo 26 = .ok (.ireturn, 1) := by decide +kernel
theorem dX7_isUp_0 : decode cX7_isUp 0 = .ok (.aload_n 0, 1) := by decide +kernel
theorem dX7_isUp_1 : decode cX7_isUp 1 = .ok (.getfield 16, 3) := by decide +kernel
theorem dX7_isUp_4 : decode cX7_isUp 4 = .ok (.iconst 4, 1) := by decide +kernel
theorem dX7_isUp_5 : decode cX7_isUp 5 = .ok (.iload_n 1, 1) := by decide +kernel
theorem dX7_isUp_6 : decode cX7_isUp 6 = .ok (.imul, 1) := by decide +kernel
theorem dX7_isUp_7 : decode cX7_isUp 7 = .ok (.iconst 1, 1) := by decide +kernel
theorem dX7_isUp_8 : decode cX7_isUp 8 = .ok (.iadd, 1) := by decide +kernel
theorem dX7_isUp_9 : decode cX7_isUp 9 = .ok (.iaload, 1) := by decide +kernel
theorem dX7_isUp_10 : decode cX7_isUp 10 = .ok (.ifCond .le 7, 3) := by decide +kernel
theorem dX7_isUp_13 : decode cX7_isUp 13 = .ok (.iconst 1, 1) := by decide +kernel
theorem dX7_isUp_14 : decode cX7_isUp 14 = .ok (.goto 4, 3) := by decide +kernel
theorem dX7_isUp_17 : decode cX7_isUp 17 = .ok (.iconst 0, 1) := by decide +kernel
theorem dX7_isUp_18 : decode cX7_isUp 18 = .ok (.ireturn, 1) := by decide +kernel
theorem dX7_upSet_0 : decode cX7_upSet 0 = .ok (.iconst 0, 1) := by decide +kernel
theorem dX7_upSet_1 : decode cX7_upSet 1 = .ok (.istore_n 1, 1) := by decide +kernel
theorem dX7_upSet_2 : decode cX7_upSet 2 = .ok (.iconst 0, 1) := by decide +kernel
theorem dX7_upSet_3 : decode cX7_upSet 3 = .ok (.istore_n 2, 1) := by decide +kernel
theorem dX7_upSet_4 : decode cX7_upSet 4 = .ok (.iload_n 2, 1) := by decide +kernel
theorem dX7_upSet_5 : decode cX7_upSet 5 = .ok (.aload_n 0, 1) := by decide +kernel
theorem dX7_upSet_6 : decode cX7_upSet 6 = .ok (.getfield 72, 3) := by decide +kernel
theorem dX7_upSet_9 : decode cX7_upSet 9 = .ok (.if_icmp .ge 27, 3) := by decide +kernel
theorem dX7_upSet_12 : decode cX7_upSet 12 = .ok (.iload_n 1, 1) := by decide +kernel
theorem dX7_upSet_13 : decode cX7_upSet 13 = .ok (.aload_n 0, 1) := by decide +kernel
theorem dX7_upSet_14 : decode cX7_upSet 14 = .ok (.iload_n 2, 1) := by decide +kernel
theorem dX7_upSet_15 : decode cX7_upSet 15 = .ok (.invokevirtual 83, 3) := by decide +kernel
theorem dX7_upSet_18 : decode cX7_upSet 18 = .ok (.ifCond .eq 9, 3) := by decide +kernel
theorem dX7_upSet_21 : decode cX7_upSet 21 = .ok (.iconst 1, 1) := by decide +kernel
theorem dX7_upSet_22 : decode cX7_upSet 22 = .ok (.iload_n 2, 1) := by decide +kernel
theorem dX7_upSet_23 : decode cX7_upSet 23 = .ok (.ishl, 1) := by decide +kernel
theorem dX7_upSet_24 : decode cX7_upSet 24 = .ok (.goto 4, 3) := by decide +kernel
theorem dX7_upSet_27 : decode cX7_upSet 27 = .ok (.iconst 0, 1) := by decide +kernel
theorem dX7_upSet_28 : decode cX7_upSet 28 = .ok (.ior, 1) := by decide +kernel
theorem dX7_upSet_29 : decode cX7_upSet 29 = .ok (.istore_n 1, 1) := by decide +kernel
theorem dX7_upSet_30 : decode cX7_upSet 30 = .ok (.iinc 2 1, 3) := by decide +kernel
theorem dX7_upSet_33 : decode cX7_upSet 33 = .ok (.goto (-29), 3) := by decide +kernel
theorem dX7_upSet_36 : decode cX7_upSet 36 = .ok (.iload_n 1, 1) := by decide +kernel
theorem dX7_upSet_37 : decode cX7_upSet 37 = .ok (.ireturn, 1) := by decide +kernel
theorem dX7_talliesAll_0 : decode cX7_talliesAll 0 = .ok (.iconst 0, 1) := by decide +kernel
theorem dX7_talliesAll_1 : decode cX7_talliesAll 1 = .ok (.istore_n 1, 1) := by decide +kernel
theorem dX7_talliesAll_2 : decode cX7_talliesAll 2 = .ok (.iconst 0, 1) := by decide +kernel
theorem dX7_talliesAll_3 : decode cX7_talliesAll 3 = .ok (.istore_n 2, 1) := by decide +kernel
theorem dX7_talliesAll_4 : decode cX7_talliesAll 4 = .ok (.iload_n 2, 1) := by decide +kernel
theorem dX7_talliesAll_5 : decode cX7_talliesAll 5 = .ok (.aload_n 0, 1) := by decide +kernel
theorem dX7_talliesAll_6 : decode cX7_talliesAll 6 = .ok (.getfield 72, 3) := by decide +kernel
theorem dX7_talliesAll_9 : decode cX7_talliesAll 9 = .ok (.if_icmp .ge 39, 3) := by decide +kernel
theorem dX7_talliesAll_12 : decode cX7_talliesAll 12 = .ok (.iconst 0, 1) := by decide +kernel
theorem dX7_talliesAll_13 : decode cX7_talliesAll 13 = .ok (.istore_n 3, 1) := by decide +kernel
theorem dX7_talliesAll_14 : decode cX7_talliesAll 14 = .ok (.iload_n 3, 1) := by decide +kernel
theorem dX7_talliesAll_15 : decode cX7_talliesAll 15 = .ok (.aload_n 0, 1) := by decide +kernel
theorem dX7_talliesAll_16 : decode cX7_talliesAll 16 = .ok (.getfield 72, 3) := by decide +kernel
theorem dX7_talliesAll_19 : decode cX7_talliesAll 19 = .ok (.if_icmp .ge 23, 3) := by decide +kernel
theorem dX7_talliesAll_22 : decode cX7_talliesAll 22 = .ok (.iload_n 1, 1) := by decide +kernel
theorem dX7_talliesAll_23 : decode cX7_talliesAll 23 = .ok (.aload_n 0, 1) := by decide +kernel
theorem dX7_talliesAll_24 : decode cX7_talliesAll 24 = .ok (.getfield 19, 3) := by decide +kernel
theorem dX7_talliesAll_27 : decode cX7_talliesAll 27 = .ok (.bipush 6, 2) := by decide +kernel
theorem dX7_talliesAll_29 : decode cX7_talliesAll 29 = .ok (.iload_n 2, 1) := by decide +kernel
theorem dX7_talliesAll_30 : decode cX7_talliesAll 30 = .ok (.imul, 1) := by decide +kernel
theorem dX7_talliesAll_31 : decode cX7_talliesAll 31 = .ok (.iload_n 3, 1) := by decide +kernel
theorem dX7_talliesAll_32 : decode cX7_talliesAll 32 = .ok (.iadd, 1) := by decide +kernel
theorem dX7_talliesAll_33 : decode cX7_talliesAll 33 = .ok (.iaload, 1) := by decide +kernel
theorem dX7_talliesAll_34 : decode cX7_talliesAll 34 = .ok (.iadd, 1) := by decide +kernel
theorem dX7_talliesAll_35 : decode cX7_talliesAll 35 = .ok (.istore_n 1, 1) := by decide +kernel
theorem dX7_talliesAll_36 : decode cX7_talliesAll 36 = .ok (.iinc 3 1, 3) := by decide +kernel
theorem dX7_talliesAll_39 : decode cX7_talliesAll 39 = .ok (.goto (-25), 3) := by decide +kernel
theorem dX7_talliesAll_42 : decode cX7_talliesAll 42 = .ok (.iinc 2 1, 3) := by decide +kernel
theorem dX7_talliesAll_45 : decode cX7_talliesAll 45 = .ok (.goto (-41), 3) := by decide +kernel
theorem dX7_talliesAll_48 : decode cX7_talliesAll 48 = .ok (.iload_n 1, 1) := by decide +kernel
theorem dX7_talliesAll_49 : decode cX7_talliesAll 49 = .ok (.ireturn, 1) := by decide +kernel
theorem dX7_count_0 : decode cX7_count 0 = .ok (.iload_n 1, 1) := by decide +kernel
theorem dX7_count_1 : decode cX7_count 1 = .ok (.tableswitch 72 0 5 #[39, 44, 49, 57, 62, 67], 39) := by decide +kernel
theorem dX7_count_40 : decode cX7_count 40 = .ok (.aload_n 0, 1) := by decide +kernel
theorem dX7_count_41 : decode cX7_count 41 = .ok (.getfield 72, 3) := by decide +kernel
theorem dX7_count_44 : decode cX7_count 44 = .ok (.ireturn, 1) := by decide +kernel
theorem dX7_count_45 : decode cX7_count 45 = .ok (.aload_n 0, 1) := by decide +kernel
theorem dX7_count_46 : decode cX7_count 46 = .ok (.getfield 86, 3) := by decide +kernel
theorem dX7_count_49 : decode cX7_count 49 = .ok (.ireturn, 1) := by decide +kernel
theorem dX7_count_50 : decode cX7_count 50 = .ok (.aload_n 0, 1) := by decide +kernel
theorem dX7_count_51 : decode cX7_count 51 = .ok (.invokevirtual 89, 3) := by decide +kernel
theorem dX7_count_54 : decode cX7_count 54 = .ok (.invokestatic 92, 3) := by decide +kernel
theorem dX7_count_57 : decode cX7_count 57 = .ok (.ireturn, 1) := by decide +kernel
theorem dX7_count_58 : decode cX7_count 58 = .ok (.aload_n 0, 1) := by decide +kernel
theorem dX7_count_59 : decode cX7_count 59 = .ok (.getfield 96, 3) := by decide +kernel
theorem dX7_count_62 : decode cX7_count 62 = .ok (.ireturn, 1) := by decide +kernel
theorem dX7_count_63 : decode cX7_count 63 = .ok (.aload_n 0, 1) := by decide +kernel
theorem dX7_count_64 : decode cX7_count 64 = .ok (.getfield 99, 3) := by decide +kernel
theorem dX7_count_67 : decode cX7_count 67 = .ok (.ireturn, 1) := by decide +kernel
theorem dX7_count_68 : decode cX7_count 68 = .ok (.aload_n 0, 1) := by decide +kernel
theorem dX7_count_69 : decode cX7_count 69 = .ok (.getfield 64, 3) := by decide +kernel
theorem dX7_count_72 : decode cX7_count 72 = .ok (.ireturn, 1) := by decide +kernel
theorem dX7_count_73 : decode cX7_count 73 = .ok (.bipush (-2), 2) := by decide +kernel
theorem dX7_count_75 : decode cX7_count 75 = .ok (.ireturn, 1) := by decide +kernel
theorem dX7_isByte_0 : decode cX7_isByte 0 = .ok (.iload_n 0, 1) := by decide +kernel
theorem dX7_isByte_1 : decode cX7_isByte 1 = .ok (.iconst 0, 1) := by decide +kernel
theorem dX7_isByte_2 : decode cX7_isByte 2 = .ok (.sipush 255, 3) := by decide +kernel
theorem dX7_isByte_5 : decode cX7_isByte 5 = .ok (.invokestatic 75, 3) := by decide +kernel
theorem dX7_isByte_8 : decode cX7_isByte 8 = .ok (.ireturn, 1) := by decide +kernel
theorem dX7_feed_0 : decode cX7_feed 0 = .ok (.iload_n 1, 1) := by decide +kernel
theorem dX7_feed_1 : decode cX7_feed 1 = .ok (.iconst 1, 1) := by decide +kernel
theorem dX7_feed_2 : decode cX7_feed 2 = .ok (.iconst 5, 1) := by decide +kernel
theorem dX7_feed_3 : decode cX7_feed 3 = .ok (.invokestatic 75, 3) := by decide +kernel
theorem dX7_feed_6 : decode cX7_feed 6 = .ok (.ifCond .eq 41, 3) := by decide +kernel
theorem dX7_feed_9 : decode cX7_feed 9 = .ok (.iload_n 2, 1) := by decide +kernel
theorem dX7_feed_10 : decode cX7_feed 10 = .ok (.invokestatic 102, 3) := by decide +kernel
theorem dX7_feed_13 : decode cX7_feed 13 = .ok (.ifCond .eq 34, 3) := by decide +kernel
theorem dX7_feed_16 : decode cX7_feed 16 = .ok (.iload_n 3, 1) := by decide +kernel
theorem dX7_feed_17 : decode cX7_feed 17 = .ok (.invokestatic 102, 3) := by decide +kernel
theorem dX7_feed_20 : decode cX7_feed 20 = .ok (.ifCond .eq 27, 3) := by decide +kernel
theorem dX7_feed_23 : decode cX7_feed 23 = .ok (.iload 4, 2) := by decide +kernel
theorem dX7_feed_25 : decode cX7_feed 25 = .ok (.invokestatic 102, 3) := by decide +kernel
theorem dX7_feed_28 : decode cX7_feed 28 = .ok (.ifCond .eq 19, 3) := by decide +kernel
theorem dX7_feed_31 : decode cX7_feed 31 = .ok (.iload 5, 2) := by decide +kernel
theorem dX7_feed_33 : decode cX7_feed 33 = .ok (.invokestatic 102, 3) := by decide +kernel
theorem dX7_feed_36 : decode cX7_feed 36 = .ok (.ifCond .eq 11, 3) := by decide +kernel
theorem dX7_feed_39 : decode cX7_feed 39 = .ok (.iload 6, 2) := by decide +kernel
theorem dX7_feed_41 : decode cX7_feed 41 = .ok (.invokestatic 102, 3) := by decide +kernel
theorem dX7_feed_44 : decode cX7_feed 44 = .ok (.ifCond .ne 6, 3) := by decide +kernel
theorem dX7_feed_47 : decode cX7_feed 47 = .ok (.bipush (-2), 2) := by decide +kernel
theorem dX7_feed_49 : decode cX7_feed 49 = .ok (.ireturn, 1) := by decide +kernel
theorem dX7_feed_50 : decode cX7_feed 50 = .ok (.aload_n 0, 1) := by decide +kernel
theorem dX7_feed_51 : decode cX7_feed 51 = .ok (.getfield 64, 3) := by decide +kernel
theorem dX7_feed_54 : decode cX7_feed 54 = .ok (.iload_n 1, 1) := by decide +kernel
theorem dX7_feed_55 : decode cX7_feed 55 = .ok (.iadd, 1) := by decide +kernel
theorem dX7_feed_56 : decode cX7_feed 56 = .ok (.sipush 160, 3) := by decide +kernel
theorem dX7_feed_59 : decode cX7_feed 59 = .ok (.if_icmp .le 6, 3) := by decide +kernel
theorem dX7_feed_62 : decode cX7_feed 62 = .ok (.bipush (-4), 2) := by decide +kernel
theorem dX7_feed_64 : decode cX7_feed 64 = .ok (.ireturn, 1) := by decide +kernel
theorem dX7_feed_65 : decode cX7_feed 65 = .ok (.iconst 0, 1) := by decide +kernel
theorem dX7_feed_66 : decode cX7_feed 66 = .ok (.istore 7, 2) := by decide +kernel
theorem dX7_feed_68 : decode cX7_feed 68 = .ok (.iload 7, 2) := by decide +kernel
theorem dX7_feed_70 : decode cX7_feed 70 = .ok (.iload_n 1, 1) := by decide +kernel
theorem dX7_feed_71 : decode cX7_feed 71 = .ok (.if_icmp .ge 71, 3) := by decide +kernel
theorem dX7_feed_74 : decode cX7_feed 74 = .ok (.aload_n 0, 1) := by decide +kernel
theorem dX7_feed_75 : decode cX7_feed 75 = .ok (.getfield 22, 3) := by decide +kernel
theorem dX7_feed_78 : decode cX7_feed 78 = .ok (.aload_n 0, 1) := by decide +kernel
theorem dX7_feed_79 : decode cX7_feed 79 = .ok (.getfield 64, 3) := by decide +kernel
theorem dX7_feed_82 : decode cX7_feed 82 = .ok (.iload 7, 2) := by decide +kernel
theorem dX7_feed_84 : decode cX7_feed 84 = .ok (.ifCond .ne 7, 3) := by decide +kernel
theorem dX7_feed_87 : decode cX7_feed 87 = .ok (.iload_n 2, 1) := by decide +kernel
theorem dX7_feed_88 : decode cX7_feed 88 = .ok (.goto 37, 3) := by decide +kernel
theorem dX7_feed_91 : decode cX7_feed 91 = .ok (.iload 7, 2) := by decide +kernel
theorem dX7_feed_93 : decode cX7_feed 93 = .ok (.iconst 1, 1) := by decide +kernel
theorem dX7_feed_94 : decode cX7_feed 94 = .ok (.if_icmp .ne 7, 3) := by decide +kernel
theorem dX7_feed_97 : decode cX7_feed 97 = .ok (.iload_n 3, 1) := by decide +kernel
theorem dX7_feed_98 : decode cX7_feed 98 = .ok (.goto 27, 3) := by decide +kernel
theorem dX7_feed_101 : decode cX7_feed 101 = .ok (.iload 7, 2) := by decide +kernel
theorem dX7_feed_103 : decode cX7_feed 103 = .ok (.iconst 2, 1) := by decide +kernel
theorem dX7_feed_104 : decode cX7_feed 104 = .ok (.if_icmp .ne 8, 3) := by decide +kernel
theorem dX7_feed_107 : decode cX7_feed 107 = .ok (.iload 4, 2) := by decide +kernel
theorem dX7_feed_109 : decode cX7_feed 109 = .ok (.goto 16, 3) := by decide +kernel
theorem dX7_feed_112 : decode cX7_feed 112 = .ok (.iload 7, 2) := by decide +kernel
theorem dX7_feed_114 : decode cX7_feed 114 = .ok (.iconst 3, 1) := by decide +kernel
theorem dX7_feed_115 : decode cX7_feed 115 = .ok (.if_icmp .ne 8, 3) := by decide +kernel
theorem dX7_feed_118 : decode cX7_feed 118 = .ok (.iload 5, 2) := by decide +kernel
theorem dX7_feed_120 : decode cX7_feed 120 = .ok (.goto 5, 3) := by decide +kernel
theorem dX7_feed_123 : decode cX7_feed 123 = .ok (.iload 6, 2) := by decide +kernel
theorem dX7_feed_125 : decode cX7_feed 125 = .ok (.iastore, 1) := by decide +kernel
theorem dX7_feed_126 : decode cX7_feed 126 = .ok (.aload_n 0, 1) := by decide +kernel
theorem dX7_feed_127 : decode cX7_feed 127 = .ok (.dup, 1) := by decide +kernel
theorem dX7_feed_128 : decode cX7_feed 128 = .ok (.getfield 64, 3) := by decide +kernel
theorem dX7_feed_131 : decode cX7_feed 131 = .ok (.iconst 1, 1) := by decide +kernel
theorem dX7_feed_132 : decode cX7_feed 132 = .ok (.iadd, 1) := by decide +kernel
theorem dX7_feed_133 : decode cX7_feed 133 = .ok (.putfield 64, 3) := by decide +kernel
theorem dX7_feed_136 : decode cX7_feed 136 = .ok (.iinc 7 1, 3) := by decide +kernel
theorem dX7_feed_139 : decode cX7_feed 139 = .ok (.goto (-71), 3) := by decide +kernel
theorem dX7_feed_142 : decode cX7_feed 142 = .ok (.aload_n 0, 1) := by decide +kernel
theorem dX7_feed_143 : decode cX7_feed 143 = .ok (.getfield 64, 3) := by decide +kernel
theorem dX7_feed_146 : decode cX7_feed 146 = .ok (.ireturn, 1) := by decide +kernel
theorem dX7_wordFrom_0 : decode cX7_wordFrom 0 = .ok (.iconst 0, 1) := by decide +kernel
theorem dX7_wordFrom_1 : decode cX7_wordFrom 1 = .ok (.istore_n 3, 1) := by decide +kernel
theorem dX7_wordFrom_2 : decode cX7_wordFrom 2 = .ok (.iload_n 3, 1) := by decide +kernel
theorem dX7_wordFrom_3 : decode cX7_wordFrom 3 = .ok (.bipush 12, 2) := by decide +kernel
theorem dX7_wordFrom_5 : decode cX7_wordFrom 5 = .ok (.if_icmp .ge 96, 3) := by decide +kernel
theorem dX7_wordFrom_8 : decode cX7_wordFrom 8 = .ok (.iload_n 2, 1) := by decide +kernel
theorem dX7_wordFrom_9 : decode cX7_wordFrom 9 = .ok (.iload_n 1, 1) := by decide +kernel
theorem dX7_wordFrom_10 : decode cX7_wordFrom 10 = .ok (.isub, 1) := by decide +kernel
theorem dX7_wordFrom_11 : decode cX7_wordFrom 11 = .ok (.bipush 8, 2) := by decide +kernel
theorem dX7_wordFrom_13 : decode cX7_wordFrom 13 = .ok (.if_icmp .gt 7, 3) := by decide +kernel
theorem dX7_wordFrom_16 : decode cX7_wordFrom 16 = .ok (.iconst 1, 1) := by decide +kernel
theorem dX7_wordFrom_17 : decode cX7_wordFrom 17 = .ok (.goto 4, 3) := by decide +kernel
theorem dX7_wordFrom_20 : decode cX7_wordFrom 20 = .ok (.iconst 0, 1) := by decide +kernel
theorem dX7_wordFrom_21 : decode cX7_wordFrom 21 = .ok (.istore 4, 2) := by decide +kernel
theorem dX7_wordFrom_23 : decode cX7_wordFrom 23 = .ok (.iconst 0, 1) := by decide +kernel
theorem dX7_wordFrom_24 : decode cX7_wordFrom 24 = .ok (.istore 5, 2) := by decide +kernel
theorem dX7_wordFrom_26 : decode cX7_wordFrom 26 = .ok (.iload 5, 2) := by decide +kernel
theorem dX7_wordFrom_28 : decode cX7_wordFrom 28 = .ok (.bipush 8, 2) := by decide +kernel
theorem dX7_wordFrom_30 : decode cX7_wordFrom 30 = .ok (.if_icmp .ge 58, 3) := by decide +kernel
theorem dX7_wordFrom_33 : decode cX7_wordFrom 33 = .ok (.iload 4, 2) := by decide +kernel
theorem dX7_wordFrom_35 : decode cX7_wordFrom 35 = .ok (.ifCond .eq 53, 3) := by decide +kernel
theorem dX7_wordFrom_38 : decode cX7_wordFrom 38 = .ok (.aload_n 0, 1) := by decide +kernel
theorem dX7_wordFrom_39 : decode cX7_wordFrom 39 = .ok (.getfield 49, 3) := by decide +kernel
theorem dX7_wordFrom_42 : decode cX7_wordFrom 42 = .ok (.bipush 8, 2) := by decide +kernel
theorem dX7_wordFrom_44 : decode cX7_wordFrom 44 = .ok (.iload_n 3, 1) := by decide +kernel
theorem dX7_wordFrom_45 : decode cX7_wordFrom 45 = .ok (.imul, 1) := by decide +kernel
theorem dX7_wordFrom_46 : decode cX7_wordFrom 46 = .ok (.iload 5, 2) := by decide +kernel
theorem dX7_wordFrom_48 : decode cX7_wordFrom 48 = .ok (.iadd, 1) := by decide +kernel
theorem dX7_wordFrom_49 : decode cX7_wordFrom 49 = .ok (.iaload, 1) := by decide +kernel
theorem dX7_wordFrom_50 : decode cX7_wordFrom 50 = .ok (.iload_n 1, 1) := by decide +kernel
theorem dX7_wordFrom_51 : decode cX7_wordFrom 51 = .ok (.iload 5, 2) := by decide +kernel
theorem dX7_wordFrom_53 : decode cX7_wordFrom 53 = .ok (.iadd, 1) := by decide +kernel
theorem dX7_wordFrom_54 : decode cX7_wordFrom 54 = .ok (.iload_n 2, 1) := by decide +kernel
theorem dX7_wordFrom_55 : decode cX7_wordFrom 55 = .ok (.if_icmp .ge 15, 3) := by decide +kernel
theorem dX7_wordFrom_58 : decode cX7_wordFrom 58 = .ok (.aload_n 0, 1) := by decide +kernel
theorem dX7_wordFrom_59 : decode cX7_wordFrom 59 = .ok (.getfield 22, 3) := by decide +kernel
theorem dX7_wordFrom_62 : decode cX7_wordFrom 62 = .ok (.iload_n 1, 1) := by decide +kernel
theorem dX7_wordFrom_63 : decode cX7_wordFrom 63 = .ok (.iload 5, 2) := by decide +kernel
theorem dX7_wordFrom_65 : decode cX7_wordFrom 65 = .ok (.iadd, 1) := by decide +kernel
theorem dX7_wordFrom_66 : decode cX7_wordFrom 66 = .ok (.iaload, 1) := by decide +kernel
theorem dX7_wordFrom_67 : decode cX7_wordFrom 67 = .ok (.goto 5, 3) := by decide +kernel
theorem dX7_wordFrom_70 : decode cX7_wordFrom 70 = .ok (.bipush 32, 2) := by decide +kernel
theorem dX7_wordFrom_72 : decode cX7_wordFrom 72 = .ok (.if_icmp .ne 7, 3) := by decide +kernel
theorem dX7_wordFrom_75 : decode cX7_wordFrom 75 = .ok (.iconst 1, 1) := by decide +kernel
theorem dX7_wordFrom_76 : decode cX7_wordFrom 76 = .ok (.goto 4, 3) := by decide +kernel
theorem dX7_wordFrom_79 : decode cX7_wordFrom 79 = .ok (.iconst 0, 1) := by decide +kernel
theorem dX7_wordFrom_80 : decode cX7_wordFrom 80 = .ok (.istore 4, 2) := by decide +kernel
theorem dX7_wordFrom_82 : decode cX7_wordFrom 82 = .ok (.iinc 5 1, 3) := by decide +kernel
theorem dX7_wordFrom_85 : decode cX7_wordFrom 85 = .ok (.goto (-59), 3) := by decide +kernel
theorem dX7_wordFrom_88 : decode cX7_wordFrom 88 = .ok (.iload 4, 2) := by decide +kernel
theorem dX7_wordFrom_90 : decode cX7_wordFrom 90 = .ok (.ifCond .eq 5, 3) := by decide +kernel
theorem dX7_wordFrom_93 : decode cX7_wordFrom 93 = .ok (.iload_n 3, 1) := by decide +kernel
theorem dX7_wordFrom_94 : decode cX7_wordFrom 94 = .ok (.ireturn, 1) := by decide +kernel
theorem dX7_wordFrom_95 : decode cX7_wordFrom 95 = .ok (.iinc 3 1, 3) := by decide +kernel
theorem dX7_wordFrom_98 : decode cX7_wordFrom 98 = .ok (.goto (-96), 3) := by decide +kernel
theorem dX7_wordFrom_101 : decode cX7_wordFrom 101 = .ok (.bipush 12, 2) := by decide +kernel
theorem dX7_wordFrom_103 : decode cX7_wordFrom 103 = .ok (.ireturn, 1) := by decide +kernel
theorem dX7_next_0 : decode cX7_next 0 = .ok (.aload_n 0, 1) := by decide +kernel
theorem dX7_next_1 : decode cX7_next 1 = .ok (.getfield 105, 3) := by decide +kernel
theorem dX7_next_4 : decode cX7_next 4 = .ok (.aload_n 0, 1) := by decide +kernel
theorem dX7_next_5 : decode cX7_next 5 = .ok (.getfield 64, 3) := by decide +kernel
theorem dX7_next_8 : decode cX7_next 8 = .ok (.if_icmp .ge 44, 3) := by decide +kernel
theorem dX7_next_11 : decode cX7_next 11 = .ok (.aload_n 0, 1) := by decide +kernel
theorem dX7_next_12 : decode cX7_next 12 = .ok (.getfield 22, 3) := by decide +kernel
theorem dX7_next_15 : decode cX7_next 15 = .ok (.aload_n 0, 1) := by decide +kernel
theorem dX7_next_16 : decode cX7_next 16 = .ok (.getfield 105, 3) := by decide +kernel
theorem dX7_next_19 : decode cX7_next 19 = .ok (.iaload, 1) := by decide +kernel
theorem dX7_next_20 : decode cX7_next 20 = .ok (.bipush 32, 2) := by decide +kernel
theorem dX7_next_22 : decode cX7_next 22 = .ok (.if_icmp .eq 17, 3) := by decide +kernel
theorem dX7_next_25 : decode cX7_next 25 = .ok (.aload_n 0, 1) := by decide +kernel
theorem dX7_next_26 : decode cX7_next 26 = .ok (.getfield 22, 3) := by decide +kernel
theorem dX7_next_29 : decode cX7_next 29 = .ok (.aload_n 0, 1) := by decide +kernel
theorem dX7_next_30 : decode cX7_next 30 = .ok (.getfield 105, 3) := by decide +kernel
theorem dX7_next_33 : decode cX7_next 33 = .ok (.iaload, 1) := by decide +kernel
theorem dX7_next_34 : decode cX7_next 34 = .ok (.bipush 10, 2) := by decide +kernel
theorem dX7_next_36 : decode cX7_next 36 = .ok (.if_icmp .ne 16, 3) := by decide +kernel
theorem dX7_next_39 : decode cX7_next 39 = .ok (.aload_n 0, 1) := by decide +kernel
theorem dX7_next_40 : decode cX7_next 40 = .ok (.dup, 1) := by decide +kernel
theorem dX7_next_41 : decode cX7_next 41 = .ok (.getfield 105, 3) := by decide +kernel
theorem dX7_next_44 : decode cX7_next 44 = .ok (.iconst 1, 1) := by decide +kernel
theorem dX7_next_45 : decode cX7_next 45 = .ok (.iadd, 1) := by decide +kernel
theorem dX7_next_46 : decode cX7_next 46 = .ok (.putfield 105, 3) := by decide +kernel
theorem dX7_next_49 : decode cX7_next 49 = .ok (.goto (-49), 3) := by decide +kernel
theorem dX7_next_52 : decode cX7_next 52 = .ok (.aload_n 0, 1) := by decide +kernel
theorem dX7_next_53 : decode cX7_next 53 = .ok (.aload_n 0, 1) := by decide +kernel
theorem dX7_next_54 : decode cX7_next 54 = .ok (.getfield 105, 3) := by decide +kernel
theorem dX7_next_57 : decode cX7_next 57 = .ok (.putfield 108, 3) := by decide +kernel
theorem dX7_next_60 : decode cX7_next 60 = .ok (.aload_n 0, 1) := by decide +kernel
theorem dX7_next_61 : decode cX7_next 61 = .ok (.iconst 0, 1) := by decide +kernel
theorem dX7_next_62 : decode cX7_next 62 = .ok (.putfield 111, 3) := by decide +kernel
theorem dX7_next_65 : decode cX7_next 65 = .ok (.aload_n 0, 1) := by decide +kernel
theorem dX7_next_66 : decode cX7_next 66 = .ok (.iconst 0, 1) := by decide +kernel
theorem dX7_next_67 : decode cX7_next 67 = .ok (.putfield 114, 3) := by decide +kernel
theorem dX7_next_70 : decode cX7_next 70 = .ok (.aload_n 0, 1) := by decide +kernel
theorem dX7_next_71 : decode cX7_next 71 = .ok (.getfield 105, 3) := by decide +kernel
theorem dX7_next_74 : decode cX7_next 74 = .ok (.aload_n 0, 1) := by decide +kernel
theorem dX7_next_75 : decode cX7_next 75 = .ok (.getfield 64, 3) := by decide +kernel
theorem dX7_next_78 : decode cX7_next 78 = .ok (.if_icmp .ne 4, 3) := by decide +kernel
theorem dX7_next_81 : decode cX7_next 81 = .ok (.return_, 1) := by decide +kernel
theorem dX7_next_82 : decode cX7_next 82 = .ok (.aload_n 0, 1) := by decide +kernel
theorem dX7_next_83 : decode cX7_next 83 = .ok (.getfield 22, 3) := by decide +kernel
theorem dX7_next_86 : decode cX7_next 86 = .ok (.aload_n 0, 1) := by decide +kernel
theorem dX7_next_87 : decode cX7_next 87 = .ok (.getfield 105, 3) := by decide +kernel
theorem dX7_next_90 : decode cX7_next 90 = .ok (.iaload, 1) := by decide +kernel
theorem dX7_next_91 : decode cX7_next 91 = .ok (.istore_n 1, 1) := by decide +kernel
theorem dX7_next_92 : decode cX7_next 92 = .ok (.iload_n 1, 1) := by decide +kernel
theorem dX7_next_93 : decode cX7_next 93 = .ok (.bipush 97, 2) := by decide +kernel
theorem dX7_next_95 : decode cX7_next 95 = .ok (.bipush 122, 2) := by decide +kernel
theorem dX7_next_97 : decode cX7_next 97 = .ok (.invokestatic 75, 3) := by decide +kernel
theorem dX7_next_100 : decode cX7_next 100 = .ok (.ifCond .eq 117, 3) := by decide +kernel
theorem dX7_next_103 : decode cX7_next 103 = .ok (.aload_n 0, 1) := by decide +kernel
theorem dX7_next_104 : decode cX7_next 104 = .ok (.getfield 105, 3) := by decide +kernel
theorem dX7_next_107 : decode cX7_next 107 = .ok (.aload_n 0, 1) := by decide +kernel
theorem dX7_next_108 : decode cX7_next 108 = .ok (.getfield 64, 3) := by decide +kernel
theorem dX7_next_111 : decode cX7_next 111 = .ok (.if_icmp .ge 35, 3) := by decide +kernel
theorem dX7_next_114 : decode cX7_next 114 = .ok (.aload_n 0, 1) := by decide +kernel
theorem dX7_next_115 : decode cX7_next 115 = .ok (.getfield 22, 3) := by decide +kernel
theorem dX7_next_118 : decode cX7_next 118 = .ok (.aload_n 0, 1) := by decide +kernel
theorem dX7_next_119 : decode cX7_next 119 = .ok (.getfield 105, 3) := by decide +kernel
theorem dX7_next_122 : decode cX7_next 122 = .ok (.iaload, 1) := by decide +kernel
theorem dX7_next_123 : decode cX7_next 123 = .ok (.bipush 97, 2) := by decide +kernel
theorem dX7_next_125 : decode cX7_next 125 = .ok (.bipush 122, 2) := by decide +kernel
theorem dX7_next_127 : decode cX7_next 127 = .ok (.invokestatic 75, 3) := by decide +kernel
theorem dX7_next_130 : decode cX7_next 130 = .ok (.ifCond .eq 16, 3) := by decide +kernel
theorem dX7_next_133 : decode cX7_next 133 = .ok (.aload_n 0, 1) := by decide +kernel
theorem dX7_next_134 : decode cX7_next 134 = .ok (.dup, 1) := by decide +kernel
theorem dX7_next_135 : decode cX7_next 135 = .ok (.getfield 105, 3) := by decide +kernel
theorem dX7_next_138 : decode cX7_next 138 = .ok (.iconst 1, 1) := by decide +kernel
theorem dX7_next_139 : decode cX7_next 139 = .ok (.iadd, 1) := by decide +kernel
theorem dX7_next_140 : decode cX7_next 140 = .ok (.putfield 105, 3) := by decide +kernel
theorem dX7_next_143 : decode cX7_next 143 = .ok (.goto (-40), 3) := by decide +kernel
theorem dX7_next_146 : decode cX7_next 146 = .ok (.aload_n 0, 1) := by decide +kernel
theorem dX7_next_147 : decode cX7_next 147 = .ok (.aload_n 0, 1) := by decide +kernel
theorem dX7_next_148 : decode cX7_next 148 = .ok (.getfield 108, 3) := by decide +kernel
theorem dX7_next_151 : decode cX7_next 151 = .ok (.aload_n 0, 1) := by decide +kernel
theorem dX7_next_152 : decode cX7_next 152 = .ok (.getfield 105, 3) := by decide +kernel
theorem dX7_next_155 : decode cX7_next 155 = .ok (.invokevirtual 117, 3) := by decide +kernel
theorem dX7_next_158 : decode cX7_next 158 = .ok (.istore_n 2, 1) := by decide +kernel
theorem dX7_next_159 : decode cX7_next 159 = .ok (.aload_n 0, 1) := by decide +kernel
theorem dX7_next_160 : decode cX7_next 160 = .ok (.iload_n 2, 1) := by decide +kernel
theorem dX7_next_161 : decode cX7_next 161 = .ok (.iconst 3, 1) := by decide +kernel
theorem dX7_next_162 : decode cX7_next 162 = .ok (.if_icmp .ge 7, 3) := by decide +kernel
theorem dX7_next_165 : decode cX7_next 165 = .ok (.iconst 3, 1) := by decide +kernel
theorem dX7_next_166 : decode cX7_next 166 = .ok (.goto 29, 3) := by decide +kernel
theorem dX7_next_169 : decode cX7_next 169 = .ok (.iload_n 2, 1) := by decide +kernel
theorem dX7_next_170 : decode cX7_next 170 = .ok (.bipush 9, 2) := by decide +kernel
theorem dX7_next_172 : decode cX7_next 172 = .ok (.if_icmp .ge 7, 3) := by decide +kernel
theorem dX7_next_175 : decode cX7_next 175 = .ok (.iconst 2, 1) := by decide +kernel
theorem dX7_next_176 : decode cX7_next 176 = .ok (.goto 19, 3) := by decide +kernel
theorem dX7_next_179 : decode cX7_next 179 = .ok (.iload_n 2, 1) := by decide +kernel
theorem dX7_next_180 : decode cX7_next 180 = .ok (.bipush 12, 2) := by decide +kernel
theorem dX7_next_182 : decode cX7_next 182 = .ok (.if_icmp .ne 7, 3) := by decide +kernel
theorem dX7_next_185 : decode cX7_next 185 = .ok (.iconst (-1), 1) := by decide +kernel
theorem dX7_next_186 : decode cX7_next 186 = .ok (.goto 9, 3) := by decide +kernel
theorem dX7_next_189 : decode cX7_next 189 = .ok (.iconst 4, 1) := by decide +kernel
theorem dX7_next_190 : decode cX7_next 190 = .ok (.iload_n 2, 1) := by decide +kernel
theorem dX7_next_191 : decode cX7_next 191 = .ok (.iadd, 1) := by decide +kernel
theorem dX7_next_192 : decode cX7_next 192 = .ok (.bipush 9, 2) := by decide +kernel
theorem dX7_next_194 : decode cX7_next 194 = .ok (.isub, 1) := by decide +kernel
theorem dX7_next_195 : decode cX7_next 195 = .ok (.putfield 111, 3) := by decide +kernel
theorem dX7_next_198 : decode cX7_next 198 = .ok (.aload_n 0, 1) := by decide +kernel
theorem dX7_next_199 : decode cX7_next 199 = .ok (.iload_n 2, 1) := by decide +kernel
theorem dX7_next_200 : decode cX7_next 200 = .ok (.iconst 3, 1) := by decide +kernel
theorem dX7_next_201 : decode cX7_next 201 = .ok (.if_icmp .ge 7, 3) := by decide +kernel
theorem dX7_next_204 : decode cX7_next 204 = .ok (.iload_n 2, 1) := by decide +kernel
theorem dX7_next_205 : decode cX7_next 205 = .ok (.goto 6, 3) := by decide +kernel
theorem dX7_next_208 : decode cX7_next 208 = .ok (.iload_n 2, 1) := by decide +kernel
theorem dX7_next_209 : decode cX7_next 209 = .ok (.iconst 3, 1) := by decide +kernel
theorem dX7_next_210 : decode cX7_next 210 = .ok (.isub, 1) := by decide +kernel
theorem dX7_next_211 : decode cX7_next 211 = .ok (.putfield 114, 3) := by decide +kernel
theorem dX7_next_214 : decode cX7_next 214 = .ok (.goto 189, 3) := by decide +kernel
theorem dX7_next_217 : decode cX7_next 217 = .ok (.iload_n 1, 1) := by decide +kernel
theorem dX7_next_218 : decode cX7_next 218 = .ok (.bipush 48, 2) := by decide +kernel
theorem dX7_next_220 : decode cX7_next 220 = .ok (.bipush 57, 2) := by decide +kernel
theorem dX7_next_222 : decode cX7_next 222 = .ok (.invokestatic 75, 3) := by decide +kernel
theorem dX7_next_225 : decode cX7_next 225 = .ok (.ifCond .eq 101, 3) := by decide +kernel
theorem dX7_next_228 : decode cX7_next 228 = .ok (.iconst 0, 1) := by decide +kernel
theorem dX7_next_229 : decode cX7_next 229 = .ok (.istore_n 2, 1) := by decide +kernel
theorem dX7_next_230 : decode cX7_next 230 = .ok (.aload_n 0, 1) := by decide +kernel
theorem dX7_next_231 : decode cX7_next 231 = .ok (.getfield 105, 3) := by decide +kernel
theorem dX7_next_234 : decode cX7_next 234 = .ok (.aload_n 0, 1) := by decide +kernel
theorem dX7_next_235 : decode cX7_next 235 = .ok (.getfield 64, 3) := by decide +kernel
theorem dX7_next_238 : decode cX7_next 238 = .ok (.if_icmp .ge 71, 3) := by decide +kernel
theorem dX7_next_241 : decode cX7_next 241 = .ok (.aload_n 0, 1) := by decide +kernel
theorem dX7_next_242 : decode cX7_next 242 = .ok (.getfield 22, 3) := by decide +kernel
theorem dX7_next_245 : decode cX7_next 245 = .ok (.aload_n 0, 1) := by decide +kernel
theorem dX7_next_246 : decode cX7_next 246 = .ok (.getfield 105, 3) := by decide +kernel
theorem dX7_next_249 : decode cX7_next 249 = .ok (.iaload, 1) := by decide +kernel
theorem dX7_next_250 : decode cX7_next 250 = .ok (.bipush 48, 2) := by decide +kernel
theorem dX7_next_252 : decode cX7_next 252 = .ok (.bipush 57, 2) := by decide +kernel
theorem dX7_next_254 : decode cX7_next 254 = .ok (.invokestatic 75, 3) := by decide +kernel
theorem dX7_next_257 : decode cX7_next 257 = .ok (.ifCond .eq 52, 3) := by decide +kernel
theorem dX7_next_260 : decode cX7_next 260 = .ok (.aload_n 0, 1) := by decide +kernel
theorem dX7_next_261 : decode cX7_next 261 = .ok (.iload_n 2, 1) := by decide +kernel
theorem dX7_next_262 : decode cX7_next 262 = .ok (.iconst 4, 1) := by decide +kernel
theorem dX7_next_263 : decode cX7_next 263 = .ok (.if_icmp .ge 26, 3) := by decide +kernel
theorem dX7_next_266 : decode cX7_next 266 = .ok (.bipush 10, 2) := by decide +kernel
theorem dX7_next_268 : decode cX7_next 268 = .ok (.aload_n 0, 1) := by decide +kernel
theorem dX7_next_269 : decode cX7_next 269 = .ok (.getfield 114, 3) := by decide +kernel
theorem dX7_next_272 : decode cX7_next 272 = .ok (.imul, 1) := by decide +kernel
theorem dX7_next_273 : decode cX7_next 273 = .ok (.aload_n 0, 1) := by decide +kernel
theorem dX7_next_274 : decode cX7_next 274 = .ok (.getfield 22, 3) := by decide +kernel
theorem dX7_next_277 : decode cX7_next 277 = .ok (.aload_n 0, 1) := by decide +kernel
theorem dX7_next_278 : decode cX7_next 278 = .ok (.getfield 105, 3) := by decide +kernel
theorem dX7_next_281 : decode cX7_next 281 = .ok (.iaload, 1) := by decide +kernel
theorem dX7_next_282 : decode cX7_next 282 = .ok (.iadd, 1) := by decide +kernel
theorem dX7_next_283 : decode cX7_next 283 = .ok (.bipush 48, 2) := by decide +kernel
theorem dX7_next_285 : decode cX7_next 285 = .ok (.isub, 1) := by decide +kernel
theorem dX7_next_286 : decode cX7_next 286 = .ok (.goto 4, 3) := by decide +kernel
theorem dX7_next_289 : decode cX7_next 289 = .ok (.iconst 0, 1) := by decide +kernel
theorem dX7_next_290 : decode cX7_next 290 = .ok (.putfield 114, 3) := by decide +kernel
theorem dX7_next_293 : decode cX7_next 293 = .ok (.iinc 2 1, 3) := by decide +kernel
theorem dX7_next_296 : decode cX7_next 296 = .ok (.aload_n 0, 1) := by decide +kernel
theorem dX7_next_297 : decode cX7_next 297 = .ok (.dup, 1) := by decide +kernel
theorem dX7_next_298 : decode cX7_next 298 = .ok (.getfield 105, 3) := by decide +kernel
theorem dX7_next_301 : decode cX7_next 301 = .ok (.iconst 1, 1) := by decide +kernel
theorem dX7_next_302 : decode cX7_next 302 = .ok (.iadd, 1) := by decide +kernel
theorem dX7_next_303 : decode cX7_next 303 = .ok (.putfield 105, 3) := by decide +kernel
theorem dX7_next_306 : decode cX7_next 306 = .ok (.goto (-76), 3) := by decide +kernel
theorem dX7_next_309 : decode cX7_next 309 = .ok (.aload_n 0, 1) := by decide +kernel
theorem dX7_next_310 : decode cX7_next 310 = .ok (.iload_n 2, 1) := by decide +kernel
theorem dX7_next_311 : decode cX7_next 311 = .ok (.iconst 4, 1) := by decide +kernel
theorem dX7_next_312 : decode cX7_next 312 = .ok (.if_icmp .le 7, 3) := by decide +kernel
theorem dX7_next_315 : decode cX7_next 315 = .ok (.iconst (-1), 1) := by decide +kernel
theorem dX7_next_316 : decode cX7_next 316 = .ok (.goto 4, 3) := by decide +kernel
theorem dX7_next_319 : decode cX7_next 319 = .ok (.iconst 1, 1) := by decide +kernel
theorem dX7_next_320 : decode cX7_next 320 = .ok (.putfield 111, 3) := by decide +kernel
theorem dX7_next_323 : decode cX7_next 323 = .ok (.goto 80, 3) := by decide +kernel
theorem dX7_next_326 : decode cX7_next 326 = .ok (.iload_n 1, 1) := by decide +kernel
theorem dX7_next_327 : decode cX7_next 327 = .ok (.bipush 40, 2) := by decide +kernel
theorem dX7_next_329 : decode cX7_next 329 = .ok (.if_icmp .eq 45, 3) := by decide +kernel
theorem dX7_next_332 : decode cX7_next 332 = .ok (.iload_n 1, 1) := by decide +kernel
theorem dX7_next_333 : decode cX7_next 333 = .ok (.bipush 41, 2) := by decide +kernel
theorem dX7_next_335 : decode cX7_next 335 = .ok (.if_icmp .eq 39, 3) := by decide +kernel
theorem dX7_next_338 : decode cX7_next 338 = .ok (.iload_n 1, 1) := by decide +kernel
theorem dX7_next_339 : decode cX7_next 339 = .ok (.bipush 59, 2) := by decide +kernel
theorem dX7_next_341 : decode cX7_next 341 = .ok (.if_icmp .eq 33, 3) := by decide +kernel
theorem dX7_next_344 : decode cX7_next 344 = .ok (.iload_n 1, 1) := by decide +kernel
theorem dX7_next_345 : decode cX7_next 345 = .ok (.bipush 43, 2) := by decide +kernel
theorem dX7_next_347 : decode cX7_next 347 = .ok (.if_icmp .eq 27, 3) := by decide +kernel
theorem dX7_next_350 : decode cX7_next 350 = .ok (.iload_n 1, 1) := by decide +kernel
theorem dX7_next_351 : decode cX7_next 351 = .ok (.bipush 45, 2) := by decide +kernel
theorem dX7_next_353 : decode cX7_next 353 = .ok (.if_icmp .eq 21, 3) := by decide +kernel
theorem dX7_next_356 : decode cX7_next 356 = .ok (.iload_n 1, 1) := by decide +kernel
theorem dX7_next_357 : decode cX7_next 357 = .ok (.bipush 42, 2) := by decide +kernel
theorem dX7_next_359 : decode cX7_next 359 = .ok (.if_icmp .eq 15, 3) := by decide +kernel
theorem dX7_next_362 : decode cX7_next 362 = .ok (.iload_n 1, 1) := by decide +kernel
theorem dX7_next_363 : decode cX7_next 363 = .ok (.bipush 60, 2) := by decide +kernel
theorem dX7_next_365 : decode cX7_next 365 = .ok (.if_icmp .eq 9, 3) := by decide +kernel
theorem dX7_next_368 : decode cX7_next 368 = .ok (.iload_n 1, 1) := by decide +kernel
theorem dX7_next_369 : decode cX7_next 369 = .ok (.bipush 61, 2) := by decide +kernel
theorem dX7_next_371 : decode cX7_next 371 = .ok (.if_icmp .ne 7, 3) := by decide +kernel
theorem dX7_next_374 : decode cX7_next 374 = .ok (.iconst 1, 1) := by decide +kernel
theorem dX7_next_375 : decode cX7_next 375 = .ok (.goto 4, 3) := by decide +kernel
theorem dX7_next_378 : decode cX7_next 378 = .ok (.iconst 0, 1) := by decide +kernel
theorem dX7_next_379 : decode cX7_next 379 = .ok (.istore_n 2, 1) := by decide +kernel
theorem dX7_next_380 : decode cX7_next 380 = .ok (.aload_n 0, 1) := by decide +kernel
theorem dX7_next_381 : decode cX7_next 381 = .ok (.iload_n 2, 1) := by decide +kernel
theorem dX7_next_382 : decode cX7_next 382 = .ok (.ifCond .eq 7, 3) := by decide +kernel
theorem dX7_next_385 : decode cX7_next 385 = .ok (.iload_n 1, 1) := by decide +kernel
theorem dX7_next_386 : decode cX7_next 386 = .ok (.goto 4, 3) := by decide +kernel
theorem dX7_next_389 : decode cX7_next 389 = .ok (.iconst (-1), 1) := by decide +kernel
theorem dX7_next_390 : decode cX7_next 390 = .ok (.putfield 111, 3) := by decide +kernel
theorem dX7_next_393 : decode cX7_next 393 = .ok (.aload_n 0, 1) := by decide +kernel
theorem dX7_next_394 : decode cX7_next 394 = .ok (.dup, 1) := by decide +kernel
theorem dX7_next_395 : decode cX7_next 395 = .ok (.getfield 105, 3) := by decide +kernel
theorem dX7_next_398 : decode cX7_next 398 = .ok (.iconst 1, 1) := by decide +kernel
theorem dX7_next_399 : decode cX7_next 399 = .ok (.iadd, 1) := by decide +kernel
theorem dX7_next_400 : decode cX7_next 400 = .ok (.putfield 105, 3) := by decide +kernel
theorem dX7_next_403 : decode cX7_next 403 = .ok (.return_, 1) := by decide +kernel
theorem dX7_rank_0 : decode cX7_rank 0 = .ok (.iload_n 0, 1) := by decide +kernel
theorem dX7_rank_1 : decode cX7_rank 1 = .ok (.ifCond .ne 7, 3) := by decide +kernel
theorem dX7_rank_4 : decode cX7_rank 4 = .ok (.iconst 0, 1) := by decide +kernel
theorem dX7_rank_5 : decode cX7_rank 5 = .ok (.goto 66, 3) := by decide +kernel
theorem dX7_rank_8 : decode cX7_rank 8 = .ok (.iload_n 0, 1) := by decide +kernel
theorem dX7_rank_9 : decode cX7_rank 9 = .ok (.bipush 11, 2) := by decide +kernel
theorem dX7_rank_11 : decode cX7_rank 11 = .ok (.if_icmp .ne 7, 3) := by decide +kernel
theorem dX7_rank_14 : decode cX7_rank 14 = .ok (.iconst 1, 1) := by decide +kernel
theorem dX7_rank_15 : decode cX7_rank 15 = .ok (.goto 56, 3) := by decide +kernel
theorem dX7_rank_18 : decode cX7_rank 18 = .ok (.iload_n 0, 1) := by decide +kernel
theorem dX7_rank_19 : decode cX7_rank 19 = .ok (.bipush 12, 2) := by decide +kernel
theorem dX7_rank_21 : decode cX7_rank 21 = .ok (.if_icmp .ne 7, 3) := by decide +kernel
theorem dX7_rank_24 : decode cX7_rank 24 = .ok (.iconst 2, 1) := by decide +kernel
theorem dX7_rank_25 : decode cX7_rank 25 = .ok (.goto 46, 3) := by decide +kernel
theorem dX7_rank_28 : decode cX7_rank 28 = .ok (.iload_n 0, 1) := by decide +kernel
theorem dX7_rank_29 : decode cX7_rank 29 = .ok (.bipush 13, 2) := by decide +kernel
theorem dX7_rank_31 : decode cX7_rank 31 = .ok (.if_icmp .ne 7, 3) := by decide +kernel
theorem dX7_rank_34 : decode cX7_rank 34 = .ok (.iconst 3, 1) := by decide +kernel
theorem dX7_rank_35 : decode cX7_rank 35 = .ok (.goto 36, 3) := by decide +kernel
theorem dX7_rank_38 : decode cX7_rank 38 = .ok (.iload_n 0, 1) := by decide +kernel
theorem dX7_rank_39 : decode cX7_rank 39 = .ok (.bipush 15, 2) := by decide +kernel
theorem dX7_rank_41 : decode cX7_rank 41 = .ok (.if_icmp .gt 7, 3) := by decide +kernel
theorem dX7_rank_44 : decode cX7_rank 44 = .ok (.iconst 4, 1) := by decide +kernel
theorem dX7_rank_45 : decode cX7_rank 45 = .ok (.goto 26, 3) := by decide +kernel
theorem dX7_rank_48 : decode cX7_rank 48 = .ok (.iload_n 0, 1) := by decide +kernel
theorem dX7_rank_49 : decode cX7_rank 49 = .ok (.bipush 17, 2) := by decide +kernel
theorem dX7_rank_51 : decode cX7_rank 51 = .ok (.if_icmp .gt 7, 3) := by decide +kernel
theorem dX7_rank_54 : decode cX7_rank 54 = .ok (.iconst 5, 1) := by decide +kernel
theorem dX7_rank_55 : decode cX7_rank 55 = .ok (.goto 16, 3) := by decide +kernel
theorem dX7_rank_58 : decode cX7_rank 58 = .ok (.iload_n 0, 1) := by decide +kernel
theorem dX7_rank_59 : decode cX7_rank 59 = .ok (.bipush 18, 2) := by decide +kernel
theorem dX7_rank_61 : decode cX7_rank 61 = .ok (.if_icmp .ne 8, 3) := by decide +kernel
theorem dX7_rank_64 : decode cX7_rank 64 = .ok (.bipush 6, 2) := by decide +kernel
theorem dX7_rank_66 : decode cX7_rank 66 = .ok (.goto 5, 3) := by decide +kernel
theorem dX7_rank_69 : decode cX7_rank 69 = .ok (.bipush 7, 2) := by decide +kernel
theorem dX7_rank_71 : decode cX7_rank 71 = .ok (.ireturn, 1) := by decide +kernel
theorem dX7_puts_0 : decode cX7_puts 0 = .ok (.aload_n 0, 1) := by decide +kernel
theorem dX7_puts_1 : decode cX7_puts 1 = .ok (.getfield 25, 3) := by decide +kernel
theorem dX7_puts_4 : decode cX7_puts 4 = .ok (.sipush 200, 3) := by decide +kernel
theorem dX7_puts_7 : decode cX7_puts 7 = .ok (.aload_n 0, 1) := by decide +kernel
theorem dX7_puts_8 : decode cX7_puts 8 = .ok (.getfield 96, 3) := by decide +kernel
theorem dX7_puts_11 : decode cX7_puts 11 = .ok (.imul, 1) := by decide +kernel
theorem dX7_puts_12 : decode cX7_puts 12 = .ok (.aload_n 0, 1) := by decide +kernel
theorem dX7_puts_13 : decode cX7_puts 13 = .ok (.getfield 121, 3) := by decide +kernel
theorem dX7_puts_16 : decode cX7_puts 16 = .ok (.iadd, 1) := by decide +kernel
theorem dX7_puts_17 : decode cX7_puts 17 = .ok (.iload_n 1, 1) := by decide +kernel
theorem dX7_puts_18 : decode cX7_puts 18 = .ok (.iastore, 1) := by decide +kernel
theorem dX7_puts_19 : decode cX7_puts 19 = .ok (.aload_n 0, 1) := by decide +kernel
theorem dX7_puts_20 : decode cX7_puts 20 = .ok (.dup, 1) := by decide +kernel
theorem dX7_puts_21 : decode cX7_puts 21 = .ok (.getfield 121, 3) := by decide +kernel
theorem dX7_puts_24 : decode cX7_puts 24 = .ok (.iconst 1, 1) := by decide +kernel
theorem dX7_puts_25 : decode cX7_puts 25 = .ok (.iadd, 1) := by decide +kernel
theorem dX7_puts_26 : decode cX7_puts 26 = .ok (.putfield 121, 3) := by decide +kernel
theorem dX7_puts_29 : decode cX7_puts 29 = .ok (.return_, 1) := by decide +kernel
theorem dX7_unwinds_0 : decode cX7_unwinds 0 = .ok (.aload_n 0, 1) := by decide +kernel
theorem dX7_unwinds_1 : decode cX7_unwinds 1 = .ok (.getfield 124, 3) := by decide +kernel
theorem dX7_unwinds_4 : decode cX7_unwinds 4 = .ok (.ifCond .le 75, 3) := by decide +kernel
theorem dX7_unwinds_7 : decode cX7_unwinds 7 = .ok (.aload_n 0, 1) := by decide +kernel
theorem dX7_unwinds_8 : decode cX7_unwinds 8 = .ok (.getfield 52, 3) := by decide +kernel
theorem dX7_unwinds_11 : decode cX7_unwinds 11 = .ok (.aload_n 0, 1) := by decide +kernel
theorem dX7_unwinds_12 : decode cX7_unwinds 12 = .ok (.getfield 124, 3) := by decide +kernel
theorem dX7_unwinds_15 : decode cX7_unwinds 15 = .ok (.iconst 1, 1) := by decide +kernel
theorem dX7_unwinds_16 : decode cX7_unwinds 16 = .ok (.isub, 1) := by decide +kernel
theorem dX7_unwinds_17 : decode cX7_unwinds 17 = .ok (.iaload, 1) := by decide +kernel
theorem dX7_unwinds_18 : decode cX7_unwinds 18 = .ok (.invokestatic 127, 3) := by decide +kernel
theorem dX7_unwinds_21 : decode cX7_unwinds 21 = .ok (.iload_n 1, 1) := by decide +kernel
theorem dX7_unwinds_22 : decode cX7_unwinds 22 = .ok (.if_icmp .lt 57, 3) := by decide +kernel
theorem dX7_unwinds_25 : decode cX7_unwinds 25 = .ok (.aload_n 0, 1) := by decide +kernel
theorem dX7_unwinds_26 : decode cX7_unwinds 26 = .ok (.dup, 1) := by decide +kernel
theorem dX7_unwinds_27 : decode cX7_unwinds 27 = .ok (.getfield 124, 3) := by decide +kernel
theorem dX7_unwinds_30 : decode cX7_unwinds 30 = .ok (.iconst 1, 1) := by decide +kernel
theorem dX7_unwinds_31 : decode cX7_unwinds 31 = .ok (.isub, 1) := by decide +kernel
theorem dX7_unwinds_32 : decode cX7_unwinds 32 = .ok (.putfield 124, 3) := by decide +kernel
theorem dX7_unwinds_35 : decode cX7_unwinds 35 = .ok (.aload_n 0, 1) := by decide +kernel
theorem dX7_unwinds_36 : decode cX7_unwinds 36 = .ok (.getfield 52, 3) := by decide +kernel
theorem dX7_unwinds_39 : decode cX7_unwinds 39 = .ok (.aload_n 0, 1) := by decide +kernel
theorem dX7_unwinds_40 : decode cX7_unwinds 40 = .ok (.getfield 124, 3) := by decide +kernel
theorem dX7_unwinds_43 : decode cX7_unwinds 43 = .ok (.iaload, 1) := by decide +kernel
theorem dX7_unwinds_44 : decode cX7_unwinds 44 = .ok (.istore_n 2, 1) := by decide +kernel
theorem dX7_unwinds_45 : decode cX7_unwinds 45 = .ok (.aload_n 0, 1) := by decide +kernel
theorem dX7_unwinds_46 : decode cX7_unwinds 46 = .ok (.dup, 1) := by decide +kernel
theorem dX7_unwinds_47 : decode cX7_unwinds 47 = .ok (.getfield 130, 3) := by decide +kernel
theorem dX7_unwinds_50 : decode cX7_unwinds 50 = .ok (.iload_n 2, 1) := by decide +kernel
theorem dX7_unwinds_51 : decode cX7_unwinds 51 = .ok (.bipush 13, 2) := by decide +kernel
theorem dX7_unwinds_53 : decode cX7_unwinds 53 = .ok (.if_icmp .eq 9, 3) := by decide +kernel
theorem dX7_unwinds_56 : decode cX7_unwinds 56 = .ok (.iload_n 2, 1) := by decide +kernel
theorem dX7_unwinds_57 : decode cX7_unwinds 57 = .ok (.bipush 19, 2) := by decide +kernel
theorem dX7_unwinds_59 : decode cX7_unwinds 59 = .ok (.if_icmp .ne 7, 3) := by decide +kernel
theorem dX7_unwinds_62 : decode cX7_unwinds 62 = .ok (.iconst 1, 1) := by decide +kernel
theorem dX7_unwinds_63 : decode cX7_unwinds 63 = .ok (.goto 4, 3) := by decide +kernel
theorem dX7_unwinds_66 : decode cX7_unwinds 66 = .ok (.iconst 0, 1) := by decide +kernel
theorem dX7_unwinds_67 : decode cX7_unwinds 67 = .ok (.isub, 1) := by decide +kernel
theorem dX7_unwinds_68 : decode cX7_unwinds 68 = .ok (.putfield 130, 3) := by decide +kernel
theorem dX7_unwinds_71 : decode cX7_unwinds 71 = .ok (.aload_n 0, 1) := by decide +kernel
theorem dX7_unwinds_72 : decode cX7_unwinds 72 = .ok (.iload_n 2, 1) := by decide +kernel
theorem dX7_unwinds_73 : decode cX7_unwinds 73 = .ok (.invokevirtual 133, 3) := by decide +kernel
theorem dX7_unwinds_76 : decode cX7_unwinds 76 = .ok (.goto (-76), 3) := by decide +kernel
theorem dX7_unwinds_79 : decode cX7_unwinds 79 = .ok (.return_, 1) := by decide +kernel
theorem dX7_holds_0 : decode cX7_holds 0 = .ok (.aload_n 0, 1) := by decide +kernel
theorem dX7_holds_1 : decode cX7_holds 1 = .ok (.getfield 52, 3) := by decide +kernel
theorem dX7_holds_4 : decode cX7_holds 4 = .ok (.aload_n 0, 1) := by decide +kernel
theorem dX7_holds_5 : decode cX7_holds 5 = .ok (.getfield 124, 3) := by decide +kernel
theorem dX7_holds_8 : decode cX7_holds 8 = .ok (.iload_n 1, 1) := by decide +kernel
theorem dX7_holds_9 : decode cX7_holds 9 = .ok (.iastore, 1) := by decide +kernel
theorem dX7_holds_10 : decode cX7_holds 10 = .ok (.aload_n 0, 1) := by decide +kernel
theorem dX7_holds_11 : decode cX7_holds 11 = .ok (.dup, 1) := by decide +kernel
theorem dX7_holds_12 : decode cX7_holds 12 = .ok (.getfield 124, 3) := by decide +kernel
theorem dX7_holds_15 : decode cX7_holds 15 = .ok (.iconst 1, 1) := by decide +kernel
theorem dX7_holds_16 : decode cX7_holds 16 = .ok (.iadd, 1) := by decide +kernel
theorem dX7_holds_17 : decode cX7_holds 17 = .ok (.putfield 124, 3) := by decide +kernel
theorem dX7_holds_20 : decode cX7_holds 20 = .ok (.return_, 1) := by decide +kernel
theorem dX7_opensOne_0 : decode cX7_opensOne 0 = .ok (.aload_n 0, 1) := by decide +kernel
theorem dX7_opensOne_1 : decode cX7_opensOne 1 = .ok (.getfield 130, 3) := by decide +kernel
theorem dX7_opensOne_4 : decode cX7_opensOne 4 = .ok (.iconst 5, 1) := by decide +kernel
theorem dX7_opensOne_5 : decode cX7_opensOne 5 = .ok (.if_icmp .ne 5, 3) := by decide +kernel
theorem dX7_opensOne_8 : decode cX7_opensOne 8 = .ok (.iconst 0, 1) := by decide +kernel
theorem dX7_opensOne_9 : decode cX7_opensOne 9 = .ok (.ireturn, 1) := by decide +kernel
theorem dX7_opensOne_10 : decode cX7_opensOne 10 = .ok (.aload_n 0, 1) := by decide +kernel
theorem dX7_opensOne_11 : decode cX7_opensOne 11 = .ok (.dup, 1) := by decide +kernel
theorem dX7_opensOne_12 : decode cX7_opensOne 12 = .ok (.getfield 130, 3) := by decide +kernel
theorem dX7_opensOne_15 : decode cX7_opensOne 15 = .ok (.iconst 1, 1) := by decide +kernel
theorem dX7_opensOne_16 : decode cX7_opensOne 16 = .ok (.iadd, 1) := by decide +kernel
theorem dX7_opensOne_17 : decode cX7_opensOne 17 = .ok (.putfield 130, 3) := by decide +kernel
theorem dX7_opensOne_20 : decode cX7_opensOne 20 = .ok (.aload_n 0, 1) := by decide +kernel
theorem dX7_opensOne_21 : decode cX7_opensOne 21 = .ok (.iload_n 1, 1) := by decide +kernel
theorem dX7_opensOne_22 : decode cX7_opensOne 22 = .ok (.invokevirtual 137, 3) := by decide +kernel
theorem dX7_opensOne_25 : decode cX7_opensOne 25 = .ok (.iconst 1, 1) := by decide +kernel
theorem dX7_opensOne_26 : decode cX7_opensOne 26 = .ok (.ireturn, 1) := by decide +kernel
theorem dX7_between_0 : decode cX7_between 0 = .ok (.aload_n 0, 1) := by decide +kernel
theorem dX7_between_1 : decode cX7_between 1 = .ok (.iload_n 1, 1) := by decide +kernel
theorem dX7_between_2 : decode cX7_between 2 = .ok (.invokestatic 127, 3) := by decide +kernel
theorem dX7_between_5 : decode cX7_between 5 = .ok (.iconst 4, 1) := by decide +kernel
theorem dX7_between_6 : decode cX7_between 6 = .ok (.if_icmp .ne 7, 3) := by decide +kernel
theorem dX7_between_9 : decode cX7_between 9 = .ok (.iconst 5, 1) := by decide +kernel
theorem dX7_between_10 : decode cX7_between 10 = .ok (.goto 7, 3) := by decide +kernel
theorem dX7_between_13 : decode cX7_between 13 = .ok (.iload_n 1, 1) := by decide +kernel
theorem dX7_between_14 : decode cX7_between 14 = .ok (.invokestatic 127, 3) := by decide +kernel
theorem dX7_between_17 : decode cX7_between 17 = .ok (.invokevirtual 140, 3) := by decide +kernel
theorem dX7_between_20 : decode cX7_between 20 = .ok (.iload_n 1, 1) := by decide +kernel
theorem dX7_between_21 : decode cX7_between 21 = .ok (.invokestatic 127, 3) := by decide +kernel
theorem dX7_between_24 : decode cX7_between 24 = .ok (.iconst 4, 1) := by decide +kernel
theorem dX7_between_25 : decode cX7_between 25 = .ok (.if_icmp .ne 30, 3) := by decide +kernel
theorem dX7_between_28 : decode cX7_between 28 = .ok (.aload_n 0, 1) := by decide +kernel
theorem dX7_between_29 : decode cX7_between 29 = .ok (.getfield 124, 3) := by decide +kernel
theorem dX7_between_32 : decode cX7_between 32 = .ok (.ifCond .le 23, 3) := by decide +kernel
theorem dX7_between_35 : decode cX7_between 35 = .ok (.aload_n 0, 1) := by decide +kernel
theorem dX7_between_36 : decode cX7_between 36 = .ok (.getfield 52, 3) := by decide +kernel
theorem dX7_between_39 : decode cX7_between 39 = .ok (.aload_n 0, 1) := by decide +kernel
theorem dX7_between_40 : decode cX7_between 40 = .ok (.getfield 124, 3) := by decide +kernel
theorem dX7_between_43 : decode cX7_between 43 = .ok (.iconst 1, 1) := by decide +kernel
theorem dX7_between_44 : decode cX7_between 44 = .ok (.isub, 1) := by decide +kernel
theorem dX7_between_45 : decode cX7_between 45 = .ok (.iaload, 1) := by decide +kernel
theorem dX7_between_46 : decode cX7_between 46 = .ok (.invokestatic 127, 3) := by decide +kernel
theorem dX7_between_49 : decode cX7_between 49 = .ok (.iconst 4, 1) := by decide +kernel
theorem dX7_between_50 : decode cX7_between 50 = .ok (.if_icmp .ne 5, 3) := by decide +kernel
theorem dX7_between_53 : decode cX7_between 53 = .ok (.iconst 0, 1) := by decide +kernel
theorem dX7_between_54 : decode cX7_between 54 = .ok (.ireturn, 1) := by decide +kernel
theorem dX7_between_55 : decode cX7_between 55 = .ok (.aload_n 0, 1) := by decide +kernel
theorem dX7_between_56 : decode cX7_between 56 = .ok (.iload_n 1, 1) := by decide +kernel
theorem dX7_between_57 : decode cX7_between 57 = .ok (.invokevirtual 137, 3) := by decide +kernel
theorem dX7_between_60 : decode cX7_between 60 = .ok (.iconst 1, 1) := by decide +kernel
theorem dX7_between_61 : decode cX7_between 61 = .ok (.ireturn, 1) := by decide +kernel
theorem dX7_signOf_0 : decode cX7_signOf 0 = .ok (.aload_n 0, 1) := by decide +kernel
theorem dX7_signOf_1 : decode cX7_signOf 1 = .ok (.getfield 111, 3) := by decide +kernel
theorem dX7_signOf_4 : decode cX7_signOf 4 = .ok (.iconst 4, 1) := by decide +kernel
theorem dX7_signOf_5 : decode cX7_signOf 5 = .ok (.if_icmp .ne 8, 3) := by decide +kernel
theorem dX7_signOf_8 : decode cX7_signOf 8 = .ok (.bipush 11, 2) := by decide +kernel
theorem dX7_signOf_10 : decode cX7_signOf 10 = .ok (.goto 87, 3) := by decide +kernel
theorem dX7_signOf_13 : decode cX7_signOf 13 = .ok (.aload_n 0, 1) := by decide +kernel
theorem dX7_signOf_14 : decode cX7_signOf 14 = .ok (.getfield 111, 3) := by decide +kernel
theorem dX7_signOf_17 : decode cX7_signOf 17 = .ok (.iconst 5, 1) := by decide +kernel
theorem dX7_signOf_18 : decode cX7_signOf 18 = .ok (.if_icmp .ne 8, 3) := by decide +kernel
theorem dX7_signOf_21 : decode cX7_signOf 21 = .ok (.bipush 12, 2) := by decide +kernel
theorem dX7_signOf_23 : decode cX7_signOf 23 = .ok (.goto 74, 3) := by decide +kernel
theorem dX7_signOf_26 : decode cX7_signOf 26 = .ok (.aload_n 0, 1) := by decide +kernel
theorem dX7_signOf_27 : decode cX7_signOf 27 = .ok (.getfield 111, 3) := by decide +kernel
theorem dX7_signOf_30 : decode cX7_signOf 30 = .ok (.bipush 60, 2) := by decide +kernel
theorem dX7_signOf_32 : decode cX7_signOf 32 = .ok (.if_icmp .ne 8, 3) := by decide +kernel
theorem dX7_signOf_35 : decode cX7_signOf 35 = .ok (.bipush 14, 2) := by decide +kernel
theorem dX7_signOf_37 : decode cX7_signOf 37 = .ok (.goto 60, 3) := by decide +kernel
theorem dX7_signOf_40 : decode cX7_signOf 40 = .ok (.aload_n 0, 1) := by decide +kernel
theorem dX7_signOf_41 : decode cX7_signOf 41 = .ok (.getfield 111, 3) := by decide +kernel
theorem dX7_signOf_44 : decode cX7_signOf 44 = .ok (.bipush 61, 2) := by decide +kernel
theorem dX7_signOf_46 : decode cX7_signOf 46 = .ok (.if_icmp .ne 8, 3) := by decide +kernel
theorem dX7_signOf_49 : decode cX7_signOf 49 = .ok (.bipush 15, 2) := by decide +kernel
theorem dX7_signOf_51 : decode cX7_signOf 51 = .ok (.goto 46, 3) := by decide +kernel
theorem dX7_signOf_54 : decode cX7_signOf 54 = .ok (.aload_n 0, 1) := by decide +kernel
theorem dX7_signOf_55 : decode cX7_signOf 55 = .ok (.getfield 111, 3) := by decide +kernel
theorem dX7_signOf_58 : decode cX7_signOf 58 = .ok (.bipush 43, 2) := by decide +kernel
theorem dX7_signOf_60 : decode cX7_signOf 60 = .ok (.if_icmp .ne 8, 3) := by decide +kernel
theorem dX7_signOf_63 : decode cX7_signOf 63 = .ok (.bipush 16, 2) := by decide +kernel
theorem dX7_signOf_65 : decode cX7_signOf 65 = .ok (.goto 32, 3) := by decide +kernel
theorem dX7_signOf_68 : decode cX7_signOf 68 = .ok (.aload_n 0, 1) := by decide +kernel
theorem dX7_signOf_69 : decode cX7_signOf 69 = .ok (.getfield 111, 3) := by decide +kernel
theorem dX7_signOf_72 : decode cX7_signOf 72 = .ok (.bipush 45, 2) := by decide +kernel
theorem dX7_signOf_74 : decode cX7_signOf 74 = .ok (.if_icmp .ne 8, 3) := by decide +kernel
theorem dX7_signOf_77 : decode cX7_signOf 77 = .ok (.bipush 17, 2) := by decide +kernel
theorem dX7_signOf_79 : decode cX7_signOf 79 = .ok (.goto 18, 3) := by decide +kernel
theorem dX7_signOf_82 : decode cX7_signOf 82 = .ok (.aload_n 0, 1) := by decide +kernel
theorem dX7_signOf_83 : decode cX7_signOf 83 = .ok (.getfield 111, 3) := by decide +kernel
theorem dX7_signOf_86 : decode cX7_signOf 86 = .ok (.bipush 42, 2) := by decide +kernel
theorem dX7_signOf_88 : decode cX7_signOf 88 = .ok (.if_icmp .ne 8, 3) := by decide +kernel
theorem dX7_signOf_91 : decode cX7_signOf 91 = .ok (.bipush 18, 2) := by decide +kernel
theorem dX7_signOf_93 : decode cX7_signOf 93 = .ok (.goto 4, 3) := by decide +kernel
theorem dX7_signOf_96 : decode cX7_signOf 96 = .ok (.iconst (-1), 1) := by decide +kernel
theorem dX7_signOf_97 : decode cX7_signOf 97 = .ok (.ireturn, 1) := by decide +kernel
theorem dX7_eRead_0 : decode cX7_eRead 0 = .ok (.aload_n 0, 1) := by decide +kernel
theorem dX7_eRead_1 : decode cX7_eRead 1 = .ok (.iconst 0, 1) := by decide +kernel
theorem dX7_eRead_2 : decode cX7_eRead 2 = .ok (.putfield 124, 3) := by decide +kernel
theorem dX7_eRead_5 : decode cX7_eRead 5 = .ok (.aload_n 0, 1) := by decide +kernel
theorem dX7_eRead_6 : decode cX7_eRead 6 = .ok (.iconst 0, 1) := by decide +kernel
theorem dX7_eRead_7 : decode cX7_eRead 7 = .ok (.putfield 130, 3) := by decide +kernel
theorem dX7_eRead_10 : decode cX7_eRead 10 = .ok (.iconst 1, 1) := by decide +kernel
theorem dX7_eRead_11 : decode cX7_eRead 11 = .ok (.istore_n 1, 1) := by decide +kernel
theorem dX7_eRead_12 : decode cX7_eRead 12 = .ok (.iconst 1, 1) := by decide +kernel
theorem dX7_eRead_13 : decode cX7_eRead 13 = .ok (.istore_n 2, 1) := by decide +kernel
theorem dX7_eRead_14 : decode cX7_eRead 14 = .ok (.aload_n 0, 1) := by decide +kernel
theorem dX7_eRead_15 : decode cX7_eRead 15 = .ok (.invokevirtual 143, 3) := by decide +kernel
theorem dX7_eRead_18 : decode cX7_eRead 18 = .ok (.iload_n 1, 1) := by decide +kernel
theorem dX7_eRead_19 : decode cX7_eRead 19 = .ok (.ifCond .eq 131, 3) := by decide +kernel
theorem dX7_eRead_22 : decode cX7_eRead 22 = .ok (.aload_n 0, 1) := by decide +kernel
theorem dX7_eRead_23 : decode cX7_eRead 23 = .ok (.getfield 111, 3) := by decide +kernel
theorem dX7_eRead_26 : decode cX7_eRead 26 = .ok (.iconst 1, 1) := by decide +kernel
theorem dX7_eRead_27 : decode cX7_eRead 27 = .ok (.if_icmp .eq 11, 3) := by decide +kernel
theorem dX7_eRead_30 : decode cX7_eRead 30 = .ok (.aload_n 0, 1) := by decide +kernel
theorem dX7_eRead_31 : decode cX7_eRead 31 = .ok (.getfield 111, 3) := by decide +kernel
theorem dX7_eRead_34 : decode cX7_eRead 34 = .ok (.iconst 2, 1) := by decide +kernel
theorem dX7_eRead_35 : decode cX7_eRead 35 = .ok (.if_icmp .ne 40, 3) := by decide +kernel
theorem dX7_eRead_38 : decode cX7_eRead 38 = .ok (.aload_n 0, 1) := by decide +kernel
theorem dX7_eRead_39 : decode cX7_eRead 39 = .ok (.aload_n 0, 1) := by decide +kernel
theorem dX7_eRead_40 : decode cX7_eRead 40 = .ok (.getfield 111, 3) := by decide +kernel
theorem dX7_eRead_43 : decode cX7_eRead 43 = .ok (.iconst 1, 1) := by decide +kernel
theorem dX7_eRead_44 : decode cX7_eRead 44 = .ok (.if_icmp .ne 13, 3) := by decide +kernel
theorem dX7_eRead_47 : decode cX7_eRead 47 = .ok (.ldc 146, 2) := by decide +kernel
theorem dX7_eRead_49 : decode cX7_eRead 49 = .ok (.aload_n 0, 1) := by decide +kernel
theorem dX7_eRead_50 : decode cX7_eRead 50 = .ok (.getfield 114, 3) := by decide +kernel
theorem dX7_eRead_53 : decode cX7_eRead 53 = .ok (.iadd, 1) := by decide +kernel
theorem dX7_eRead_54 : decode cX7_eRead 54 = .ok (.goto 7, 3) := by decide +kernel
theorem dX7_eRead_57 : decode cX7_eRead 57 = .ok (.aload_n 0, 1) := by decide +kernel
theorem dX7_eRead_58 : decode cX7_eRead 58 = .ok (.getfield 114, 3) := by decide +kernel
theorem dX7_eRead_61 : decode cX7_eRead 61 = .ok (.invokevirtual 133, 3) := by decide +kernel
theorem dX7_eRead_64 : decode cX7_eRead 64 = .ok (.aload_n 0, 1) := by decide +kernel
theorem dX7_eRead_65 : decode cX7_eRead 65 = .ok (.bipush 7, 2) := by decide +kernel
theorem dX7_eRead_67 : decode cX7_eRead 67 = .ok (.invokevirtual 140, 3) := by decide +kernel
theorem dX7_eRead_70 : decode cX7_eRead 70 = .ok (.iconst 0, 1) := by decide +kernel
theorem dX7_eRead_71 : decode cX7_eRead 71 = .ok (.istore_n 1, 1) := by decide +kernel
theorem dX7_eRead_72 : decode cX7_eRead 72 = .ok (.goto (-58), 3) := by decide +kernel
theorem dX7_eRead_75 : decode cX7_eRead 75 = .ok (.aload_n 0, 1) := by decide +kernel
theorem dX7_eRead_76 : decode cX7_eRead 76 = .ok (.getfield 111, 3) := by decide +kernel
theorem dX7_eRead_79 : decode cX7_eRead 79 = .ok (.bipush 6, 2) := by decide +kernel
theorem dX7_eRead_81 : decode cX7_eRead 81 = .ok (.if_icmp .ne 18, 3) := by decide +kernel
theorem dX7_eRead_84 : decode cX7_eRead 84 = .ok (.iload_n 2, 1) := by decide +kernel
theorem dX7_eRead_85 : decode cX7_eRead 85 = .ok (.ifCond .eq 14, 3) := by decide +kernel
theorem dX7_eRead_88 : decode cX7_eRead 88 = .ok (.aload_n 0, 1) := by decide +kernel
theorem dX7_eRead_89 : decode cX7_eRead 89 = .ok (.bipush 13, 2) := by decide +kernel
theorem dX7_eRead_91 : decode cX7_eRead 91 = .ok (.invokevirtual 147, 3) := by decide +kernel
theorem dX7_eRead_94 : decode cX7_eRead 94 = .ok (.ifCond .ne (-80), 3) := by decide +kernel
theorem dX7_eRead_97 : decode cX7_eRead 97 = .ok (.iconst 0, 1) := by decide +kernel
theorem dX7_eRead_98 : decode cX7_eRead 98 = .ok (.ireturn, 1) := by decide +kernel
theorem dX7_eRead_99 : decode cX7_eRead 99 = .ok (.aload_n 0, 1) := by decide +kernel
theorem dX7_eRead_100 : decode cX7_eRead 100 = .ok (.getfield 111, 3) := by decide +kernel
theorem dX7_eRead_103 : decode cX7_eRead 103 = .ok (.bipush 45, 2) := by decide +kernel
theorem dX7_eRead_105 : decode cX7_eRead 105 = .ok (.if_icmp .ne 19, 3) := by decide +kernel
theorem dX7_eRead_108 : decode cX7_eRead 108 = .ok (.aload_n 0, 1) := by decide +kernel
theorem dX7_eRead_109 : decode cX7_eRead 109 = .ok (.bipush 19, 2) := by decide +kernel
theorem dX7_eRead_111 : decode cX7_eRead 111 = .ok (.invokevirtual 147, 3) := by decide +kernel
theorem dX7_eRead_114 : decode cX7_eRead 114 = .ok (.ifCond .ne 5, 3) := by decide +kernel
theorem dX7_eRead_117 : decode cX7_eRead 117 = .ok (.iconst 0, 1) := by decide +kernel
theorem dX7_eRead_118 : decode cX7_eRead 118 = .ok (.ireturn, 1) := by decide +kernel
theorem dX7_eRead_119 : decode cX7_eRead 119 = .ok (.iconst 0, 1) := by decide +kernel
theorem dX7_eRead_120 : decode cX7_eRead 120 = .ok (.istore_n 2, 1) := by decide +kernel
theorem dX7_eRead_121 : decode cX7_eRead 121 = .ok (.goto (-107), 3) := by decide +kernel
theorem dX7_eRead_124 : decode cX7_eRead 124 = .ok (.aload_n 0, 1) := by decide +kernel
theorem dX7_eRead_125 : decode cX7_eRead 125 = .ok (.getfield 111, 3) := by decide +kernel
theorem dX7_eRead_128 : decode cX7_eRead 128 = .ok (.bipush 40, 2) := by decide +kernel
theorem dX7_eRead_130 : decode cX7_eRead 130 = .ok (.if_icmp .ne 18, 3) := by decide +kernel
theorem dX7_eRead_133 : decode cX7_eRead 133 = .ok (.aload_n 0, 1) := by decide +kernel
theorem dX7_eRead_134 : decode cX7_eRead 134 = .ok (.iconst 0, 1) := by decide +kernel
theorem dX7_eRead_135 : decode cX7_eRead 135 = .ok (.invokevirtual 147, 3) := by decide +kernel
theorem dX7_eRead_138 : decode cX7_eRead 138 = .ok (.ifCond .ne 5, 3) := by decide +kernel
theorem dX7_eRead_141 : decode cX7_eRead 141 = .ok (.iconst 0, 1) := by decide +kernel
theorem dX7_eRead_142 : decode cX7_eRead 142 = .ok (.ireturn, 1) := by decide +kernel
theorem dX7_eRead_143 : decode cX7_eRead 143 = .ok (.iconst 1, 1) := by decide +kernel
theorem dX7_eRead_144 : decode cX7_eRead 144 = .ok (.istore_n 2, 1) := by decide +kernel
theorem dX7_eRead_145 : decode cX7_eRead 145 = .ok (.goto (-131), 3) := by decide +kernel
theorem dX7_eRead_148 : decode cX7_eRead 148 = .ok (.iconst 0, 1) := by decide +kernel
theorem dX7_eRead_149 : decode cX7_eRead 149 = .ok (.ireturn, 1) := by decide +kernel
theorem dX7_eRead_150 : decode cX7_eRead 150 = .ok (.aload_n 0, 1) := by decide +kernel
theorem dX7_eRead_151 : decode cX7_eRead 151 = .ok (.getfield 111, 3) := by decide +kernel
theorem dX7_eRead_154 : decode cX7_eRead 154 = .ok (.bipush 59, 2) := by decide +kernel
theorem dX7_eRead_156 : decode cX7_eRead 156 = .ok (.if_icmp .ne 21, 3) := by decide +kernel
theorem dX7_eRead_159 : decode cX7_eRead 159 = .ok (.aload_n 0, 1) := by decide +kernel
theorem dX7_eRead_160 : decode cX7_eRead 160 = .ok (.iconst 1, 1) := by decide +kernel
theorem dX7_eRead_161 : decode cX7_eRead 161 = .ok (.invokevirtual 140, 3) := by decide +kernel
theorem dX7_eRead_164 : decode cX7_eRead 164 = .ok (.aload_n 0, 1) := by decide +kernel
theorem dX7_eRead_165 : decode cX7_eRead 165 = .ok (.getfield 124, 3) := by decide +kernel
theorem dX7_eRead_168 : decode cX7_eRead 168 = .ok (.ifCond .ne 7, 3) := by decide +kernel
theorem dX7_eRead_171 : decode cX7_eRead 171 = .ok (.iconst 1, 1) := by decide +kernel
theorem dX7_eRead_172 : decode cX7_eRead 172 = .ok (.goto 4, 3) := by decide +kernel
theorem dX7_eRead_175 : decode cX7_eRead 175 = .ok (.iconst 0, 1) := by decide +kernel
theorem dX7_eRead_176 : decode cX7_eRead 176 = .ok (.ireturn, 1) := by decide +kernel
theorem dX7_eRead_177 : decode cX7_eRead 177 = .ok (.aload_n 0, 1) := by decide +kernel
theorem dX7_eRead_178 : decode cX7_eRead 178 = .ok (.getfield 111, 3) := by decide +kernel
theorem dX7_eRead_181 : decode cX7_eRead 181 = .ok (.bipush 41, 2) := by decide +kernel
theorem dX7_eRead_183 : decode cX7_eRead 183 = .ok (.if_icmp .ne 46, 3) := by decide +kernel
theorem dX7_eRead_186 : decode cX7_eRead 186 = .ok (.aload_n 0, 1) := by decide +kernel
theorem dX7_eRead_187 : decode cX7_eRead 187 = .ok (.iconst 1, 1) := by decide +kernel
theorem dX7_eRead_188 : decode cX7_eRead 188 = .ok (.invokevirtual 140, 3) := by decide +kernel
theorem dX7_eRead_191 : decode cX7_eRead 191 = .ok (.aload_n 0, 1) := by decide +kernel
theorem dX7_eRead_192 : decode cX7_eRead 192 = .ok (.getfield 124, 3) := by decide +kernel
theorem dX7_eRead_195 : decode cX7_eRead 195 = .ok (.ifCond .ne 5, 3) := by decide +kernel
theorem dX7_eRead_198 : decode cX7_eRead 198 = .ok (.iconst 0, 1) := by decide +kernel
theorem dX7_eRead_199 : decode cX7_eRead 199 = .ok (.ireturn, 1) := by decide +kernel
theorem dX7_eRead_200 : decode cX7_eRead 200 = .ok (.aload_n 0, 1) := by decide +kernel
theorem dX7_eRead_201 : decode cX7_eRead 201 = .ok (.dup, 1) := by decide +kernel
theorem dX7_eRead_202 : decode cX7_eRead 202 = .ok (.getfield 124, 3) := by decide +kernel
theorem dX7_eRead_205 : decode cX7_eRead 205 = .ok (.iconst 1, 1) := by decide +kernel
theorem dX7_eRead_206 : decode cX7_eRead 206 = .ok (.isub, 1) := by decide +kernel
theorem dX7_eRead_207 : decode cX7_eRead 207 = .ok (.putfield 124, 3) := by decide +kernel
theorem dX7_eRead_210 : decode cX7_eRead 210 = .ok (.aload_n 0, 1) := by decide +kernel
theorem dX7_eRead_211 : decode cX7_eRead 211 = .ok (.dup, 1) := by decide +kernel
theorem dX7_eRead_212 : decode cX7_eRead 212 = .ok (.getfield 130, 3) := by decide +kernel
theorem dX7_eRead_215 : decode cX7_eRead 215 = .ok (.iconst 1, 1) := by decide +kernel
theorem dX7_eRead_216 : decode cX7_eRead 216 = .ok (.isub, 1) := by decide +kernel
theorem dX7_eRead_217 : decode cX7_eRead 217 = .ok (.putfield 130, 3) := by decide +kernel
theorem dX7_eRead_220 : decode cX7_eRead 220 = .ok (.aload_n 0, 1) := by decide +kernel
theorem dX7_eRead_221 : decode cX7_eRead 221 = .ok (.bipush 7, 2) := by decide +kernel
theorem dX7_eRead_223 : decode cX7_eRead 223 = .ok (.invokevirtual 140, 3) := by decide +kernel
theorem dX7_eRead_226 : decode cX7_eRead 226 = .ok (.goto (-212), 3) := by decide +kernel
theorem dX7_eRead_229 : decode cX7_eRead 229 = .ok (.aload_n 0, 1) := by decide +kernel
theorem dX7_eRead_230 : decode cX7_eRead 230 = .ok (.invokevirtual 150, 3) := by decide +kernel
theorem dX7_eRead_233 : decode cX7_eRead 233 = .ok (.istore_n 3, 1) := by decide +kernel
theorem dX7_eRead_234 : decode cX7_eRead 234 = .ok (.iload_n 3, 1) := by decide +kernel
theorem dX7_eRead_235 : decode cX7_eRead 235 = .ok (.iconst (-1), 1) := by decide +kernel
theorem dX7_eRead_236 : decode cX7_eRead 236 = .ok (.if_icmp .eq 11, 3) := by decide +kernel
theorem dX7_eRead_239 : decode cX7_eRead 239 = .ok (.aload_n 0, 1) := by decide +kernel
theorem dX7_eRead_240 : decode cX7_eRead 240 = .ok (.iload_n 3, 1) := by decide +kernel
theorem dX7_eRead_241 : decode cX7_eRead 241 = .ok (.invokevirtual 153, 3) := by decide +kernel
theorem dX7_eRead_244 : decode cX7_eRead 244 = .ok (.ifCond .ne 5, 3) := by decide +kernel
theorem dX7_eRead_247 : decode cX7_eRead 247 = .ok (.iconst 0, 1) := by decide +kernel
theorem dX7_eRead_248 : decode cX7_eRead 248 = .ok (.ireturn, 1) := by decide +kernel
theorem dX7_eRead_249 : decode cX7_eRead 249 = .ok (.iconst 1, 1) := by decide +kernel
theorem dX7_eRead_250 : decode cX7_eRead 250 = .ok (.istore_n 1, 1) := by decide +kernel
theorem dX7_eRead_251 : decode cX7_eRead 251 = .ok (.iload_n 3, 1) := by decide +kernel
theorem dX7_eRead_252 : decode cX7_eRead 252 = .ok (.bipush 12, 2) := by decide +kernel
theorem dX7_eRead_254 : decode cX7_eRead 254 = .ok (.if_icmp .gt 7, 3) := by decide +kernel
theorem dX7_eRead_257 : decode cX7_eRead 257 = .ok (.iconst 1, 1) := by decide +kernel
theorem dX7_eRead_258 : decode cX7_eRead 258 = .ok (.goto 4, 3) := by decide +kernel
theorem dX7_eRead_261 : decode cX7_eRead 261 = .ok (.iconst 0, 1) := by decide +kernel
theorem dX7_eRead_262 : decode cX7_eRead 262 = .ok (.istore_n 2, 1) := by decide +kernel
theorem dX7_eRead_263 : decode cX7_eRead 263 = .ok (.goto (-249), 3) := by decide +kernel
theorem dX7_text_0 : decode cX7_text 0 = .ok (.aload_n 0, 1) := by decide +kernel
theorem dX7_text_1 : decode cX7_text 1 = .ok (.getfield 96, 3) := by decide +kernel
theorem dX7_text_4 : decode cX7_text 4 = .ok (.bipush 6, 2) := by decide +kernel
theorem dX7_text_6 : decode cX7_text 6 = .ok (.if_icmp .ne 6, 3) := by decide +kernel
theorem dX7_text_9 : decode cX7_text 9 = .ok (.bipush (-4), 2) := by decide +kernel
theorem dX7_text_11 : decode cX7_text 11 = .ok (.ireturn, 1) := by decide +kernel
theorem dX7_text_12 : decode cX7_text 12 = .ok (.aload_n 0, 1) := by decide +kernel
theorem dX7_text_13 : decode cX7_text 13 = .ok (.iconst 0, 1) := by decide +kernel
theorem dX7_text_14 : decode cX7_text 14 = .ok (.putfield 105, 3) := by decide +kernel
theorem dX7_text_17 : decode cX7_text 17 = .ok (.aload_n 0, 1) := by decide +kernel
theorem dX7_text_18 : decode cX7_text 18 = .ok (.iconst 0, 1) := by decide +kernel
theorem dX7_text_19 : decode cX7_text 19 = .ok (.putfield 121, 3) := by decide +kernel
theorem dX7_text_22 : decode cX7_text 22 = .ok (.iconst 1, 1) := by decide +kernel
theorem dX7_text_23 : decode cX7_text 23 = .ok (.istore_n 1, 1) := by decide +kernel
theorem dX7_text_24 : decode cX7_text 24 = .ok (.iconst 0, 1) := by decide +kernel
theorem dX7_text_25 : decode cX7_text 25 = .ok (.istore_n 2, 1) := by decide +kernel
theorem dX7_text_26 : decode cX7_text 26 = .ok (.iload_n 2, 1) := by decide +kernel
theorem dX7_text_27 : decode cX7_text 27 = .ok (.iconst 3, 1) := by decide +kernel
theorem dX7_text_28 : decode cX7_text 28 = .ok (.if_icmp .ge 73, 3) := by decide +kernel
theorem dX7_text_31 : decode cX7_text 31 = .ok (.iload_n 1, 1) := by decide +kernel
theorem dX7_text_32 : decode cX7_text 32 = .ok (.ifCond .eq 69, 3) := by decide +kernel
theorem dX7_text_35 : decode cX7_text 35 = .ok (.aload_n 0, 1) := by decide +kernel
theorem dX7_text_36 : decode cX7_text 36 = .ok (.invokevirtual 143, 3) := by decide +kernel
theorem dX7_text_39 : decode cX7_text 39 = .ok (.aload_n 0, 1) := by decide +kernel
theorem dX7_text_40 : decode cX7_text 40 = .ok (.getfield 111, 3) := by decide +kernel
theorem dX7_text_43 : decode cX7_text 43 = .ok (.iconst 3, 1) := by decide +kernel
theorem dX7_text_44 : decode cX7_text 44 = .ok (.if_icmp .ne 15, 3) := by decide +kernel
theorem dX7_text_47 : decode cX7_text 47 = .ok (.aload_n 0, 1) := by decide +kernel
theorem dX7_text_48 : decode cX7_text 48 = .ok (.getfield 114, 3) := by decide +kernel
theorem dX7_text_51 : decode cX7_text 51 = .ok (.iload_n 2, 1) := by decide +kernel
theorem dX7_text_52 : decode cX7_text 52 = .ok (.if_icmp .ne 7, 3) := by decide +kernel
theorem dX7_text_55 : decode cX7_text 55 = .ok (.iconst 1, 1) := by decide +kernel
theorem dX7_text_56 : decode cX7_text 56 = .ok (.goto 4, 3) := by decide +kernel
theorem dX7_text_59 : decode cX7_text 59 = .ok (.iconst 0, 1) := by decide +kernel
theorem dX7_text_60 : decode cX7_text 60 = .ok (.istore_n 1, 1) := by decide +kernel
theorem dX7_text_61 : decode cX7_text 61 = .ok (.aload_n 0, 1) := by decide +kernel
theorem dX7_text_62 : decode cX7_text 62 = .ok (.getfield 28, 3) := by decide +kernel
theorem dX7_text_65 : decode cX7_text 65 = .ok (.iconst 4, 1) := by decide +kernel
theorem dX7_text_66 : decode cX7_text 66 = .ok (.aload_n 0, 1) := by decide +kernel
theorem dX7_text_67 : decode cX7_text 67 = .ok (.getfield 96, 3) := by decide +kernel
theorem dX7_text_70 : decode cX7_text 70 = .ok (.imul, 1) := by decide +kernel
theorem dX7_text_71 : decode cX7_text 71 = .ok (.iload_n 2, 1) := by decide +kernel
theorem dX7_text_72 : decode cX7_text 72 = .ok (.iadd, 1) := by decide +kernel
theorem dX7_text_73 : decode cX7_text 73 = .ok (.aload_n 0, 1) := by decide +kernel
theorem dX7_text_74 : decode cX7_text 74 = .ok (.getfield 121, 3) := by decide +kernel
theorem dX7_text_77 : decode cX7_text 77 = .ok (.iastore, 1) := by decide +kernel
theorem dX7_text_78 : decode cX7_text 78 = .ok (.iload_n 1, 1) := by decide +kernel
theorem dX7_text_79 : decode cX7_text 79 = .ok (.ifCond .eq 14, 3) := by decide +kernel
theorem dX7_text_82 : decode cX7_text 82 = .ok (.aload_n 0, 1) := by decide +kernel
theorem dX7_text_83 : decode cX7_text 83 = .ok (.invokevirtual 156, 3) := by decide +kernel
theorem dX7_text_86 : decode cX7_text 86 = .ok (.ifCond .eq 7, 3) := by decide +kernel
theorem dX7_text_89 : decode cX7_text 89 = .ok (.iconst 1, 1) := by decide +kernel
theorem dX7_text_90 : decode cX7_text 90 = .ok (.goto 4, 3) := by decide +kernel
theorem dX7_text_93 : decode cX7_text 93 = .ok (.iconst 0, 1) := by decide +kernel
theorem dX7_text_94 : decode cX7_text 94 = .ok (.istore_n 1, 1) := by decide +kernel
theorem dX7_text_95 : decode cX7_text 95 = .ok (.iinc 2 1, 3) := by decide +kernel
theorem dX7_text_98 : decode cX7_text 98 = .ok (.goto (-72), 3) := by decide +kernel
theorem dX7_text_101 : decode cX7_text 101 = .ok (.iload_n 1, 1) := by decide +kernel
theorem dX7_text_102 : decode cX7_text 102 = .ok (.ifCond .eq 20, 3) := by decide +kernel
theorem dX7_text_105 : decode cX7_text 105 = .ok (.aload_n 0, 1) := by decide +kernel
theorem dX7_text_106 : decode cX7_text 106 = .ok (.invokevirtual 143, 3) := by decide +kernel
theorem dX7_text_109 : decode cX7_text 109 = .ok (.aload_n 0, 1) := by decide +kernel
theorem dX7_text_110 : decode cX7_text 110 = .ok (.getfield 111, 3) := by decide +kernel
theorem dX7_text_113 : decode cX7_text 113 = .ok (.ifCond .ne 7, 3) := by decide +kernel
theorem dX7_text_116 : decode cX7_text 116 = .ok (.iconst 1, 1) := by decide +kernel
theorem dX7_text_117 : decode cX7_text 117 = .ok (.goto 4, 3) := by decide +kernel
theorem dX7_text_120 : decode cX7_text 120 = .ok (.iconst 0, 1) := by decide +kernel
theorem dX7_text_121 : decode cX7_text 121 = .ok (.istore_n 1, 1) := by decide +kernel
theorem dX7_text_122 : decode cX7_text 122 = .ok (.aload_n 0, 1) := by decide +kernel
theorem dX7_text_123 : decode cX7_text 123 = .ok (.getfield 28, 3) := by decide +kernel
theorem dX7_text_126 : decode cX7_text 126 = .ok (.iconst 4, 1) := by decide +kernel
theorem dX7_text_127 : decode cX7_text 127 = .ok (.aload_n 0, 1) := by decide +kernel
theorem dX7_text_128 : decode cX7_text 128 = .ok (.getfield 96, 3) := by decide +kernel
theorem dX7_text_131 : decode cX7_text 131 = .ok (.imul, 1) := by decide +kernel
theorem dX7_text_132 : decode cX7_text 132 = .ok (.iconst 3, 1) := by decide +kernel
theorem dX7_text_133 : decode cX7_text 133 = .ok (.iadd, 1) := by decide +kernel
theorem dX7_text_134 : decode cX7_text 134 = .ok (.aload_n 0, 1) := by decide +kernel
theorem dX7_text_135 : decode cX7_text 135 = .ok (.getfield 121, 3) := by decide +kernel
theorem dX7_text_138 : decode cX7_text 138 = .ok (.iastore, 1) := by decide +kernel
theorem dX7_text_139 : decode cX7_text 139 = .ok (.aload_n 0, 1) := by decide +kernel
theorem dX7_text_140 : decode cX7_text 140 = .ok (.iconst 0, 1) := by decide +kernel
theorem dX7_text_141 : decode cX7_text 141 = .ok (.putfield 64, 3) := by decide +kernel
theorem dX7_text_144 : decode cX7_text 144 = .ok (.iload_n 1, 1) := by decide +kernel
theorem dX7_text_145 : decode cX7_text 145 = .ok (.ifCond .ne 11, 3) := by decide +kernel
theorem dX7_text_148 : decode cX7_text 148 = .ok (.bipush (-100), 2) := by decide +kernel
theorem dX7_text_150 : decode cX7_text 150 = .ok (.aload_n 0, 1) := by decide +kernel
theorem dX7_text_151 : decode cX7_text 151 = .ok (.getfield 108, 3) := by decide +kernel
theorem dX7_text_154 : decode cX7_text 154 = .ok (.isub, 1) := by decide +kernel
theorem dX7_text_155 : decode cX7_text 155 = .ok (.ireturn, 1) := by decide +kernel
theorem dX7_text_156 : decode cX7_text 156 = .ok (.aload_n 0, 1) := by decide +kernel
theorem dX7_text_157 : decode cX7_text 157 = .ok (.dup, 1) := by decide +kernel
theorem dX7_text_158 : decode cX7_text 158 = .ok (.getfield 96, 3) := by decide +kernel
theorem dX7_text_161 : decode cX7_text 161 = .ok (.iconst 1, 1) := by decide +kernel
theorem dX7_text_162 : decode cX7_text 162 = .ok (.iadd, 1) := by decide +kernel
theorem dX7_text_163 : decode cX7_text 163 = .ok (.putfield 96, 3) := by decide +kernel
theorem dX7_text_166 : decode cX7_text 166 = .ok (.aload_n 0, 1) := by decide +kernel
theorem dX7_text_167 : decode cX7_text 167 = .ok (.getfield 96, 3) := by decide +kernel
theorem dX7_text_170 : decode cX7_text 170 = .ok (.iconst 1, 1) := by decide +kernel
theorem dX7_text_171 : decode cX7_text 171 = .ok (.isub, 1) := by decide +kernel
theorem dX7_text_172 : decode cX7_text 172 = .ok (.ireturn, 1) := by decide +kernel
theorem dX7_two_0 : decode cX7_two 0 = .ok (.iload_n 0, 1) := by decide +kernel
theorem dX7_two_1 : decode cX7_two 1 = .ok (.tableswitch 101 11 17 #[43, 57, 101, 71, 82, 93, 97], 43) := by decide +kernel
theorem dX7_two_44 : decode cX7_two 44 = .ok (.iload_n 1, 1) := by decide +kernel
theorem dX7_two_45 : decode cX7_two 45 = .ok (.ifCond .ne 7, 3) := by decide +kernel
theorem dX7_two_48 : decode cX7_two 48 = .ok (.iload_n 2, 1) := by decide +kernel
theorem dX7_two_49 : decode cX7_two 49 = .ok (.ifCond .eq 7, 3) := by decide +kernel
theorem dX7_two_52 : decode cX7_two 52 = .ok (.iconst 1, 1) := by decide +kernel
theorem dX7_two_53 : decode cX7_two 53 = .ok (.goto 4, 3) := by decide +kernel
theorem dX7_two_56 : decode cX7_two 56 = .ok (.iconst 0, 1) := by decide +kernel
theorem dX7_two_57 : decode cX7_two 57 = .ok (.ireturn, 1) := by decide +kernel
theorem dX7_two_58 : decode cX7_two 58 = .ok (.iload_n 1, 1) := by decide +kernel
theorem dX7_two_59 : decode cX7_two 59 = .ok (.ifCond .eq 11, 3) := by decide +kernel
theorem dX7_two_62 : decode cX7_two 62 = .ok (.iload_n 2, 1) := by decide +kernel
theorem dX7_two_63 : decode cX7_two 63 = .ok (.ifCond .eq 7, 3) := by decide +kernel
theorem dX7_two_66 : decode cX7_two 66 = .ok (.iconst 1, 1) := by decide +kernel
theorem dX7_two_67 : decode cX7_two 67 = .ok (.goto 4, 3) := by decide +kernel
theorem dX7_two_70 : decode cX7_two 70 = .ok (.iconst 0, 1) := by decide +kernel
theorem dX7_two_71 : decode cX7_two 71 = .ok (.ireturn, 1) := by decide +kernel
theorem dX7_two_72 : decode cX7_two 72 = .ok (.iload_n 1, 1) := by decide +kernel
theorem dX7_two_73 : decode cX7_two 73 = .ok (.iload_n 2, 1) := by decide +kernel
theorem dX7_two_74 : decode cX7_two 74 = .ok (.if_icmp .ge 7, 3) := by decide +kernel
theorem dX7_two_77 : decode cX7_two 77 = .ok (.iconst 1, 1) := by decide +kernel
theorem dX7_two_78 : decode cX7_two 78 = .ok (.goto 4, 3) := by decide +kernel
theorem dX7_two_81 : decode cX7_two 81 = .ok (.iconst 0, 1) := by decide +kernel
theorem dX7_two_82 : decode cX7_two 82 = .ok (.ireturn, 1) := by decide +kernel
theorem dX7_two_83 : decode cX7_two 83 = .ok (.iload_n 1, 1) := by decide +kernel
theorem dX7_two_84 : decode cX7_two 84 = .ok (.iload_n 2, 1) := by decide +kernel
theorem dX7_two_85 : decode cX7_two 85 = .ok (.if_icmp .ne 7, 3) := by decide +kernel
theorem dX7_two_88 : decode cX7_two 88 = .ok (.iconst 1, 1) := by decide +kernel
theorem dX7_two_89 : decode cX7_two 89 = .ok (.goto 4, 3) := by decide +kernel
theorem dX7_two_92 : decode cX7_two 92 = .ok (.iconst 0, 1) := by decide +kernel
theorem dX7_two_93 : decode cX7_two 93 = .ok (.ireturn, 1) := by decide +kernel
theorem dX7_two_94 : decode cX7_two 94 = .ok (.iload_n 1, 1) := by decide +kernel
theorem dX7_two_95 : decode cX7_two 95 = .ok (.iload_n 2, 1) := by decide +kernel
theorem dX7_two_96 : decode cX7_two 96 = .ok (.iadd, 1) := by decide +kernel
theorem dX7_two_97 : decode cX7_two 97 = .ok (.ireturn, 1) := by decide +kernel
theorem dX7_two_98 : decode cX7_two 98 = .ok (.iload_n 1, 1) := by decide +kernel
theorem dX7_two_99 : decode cX7_two 99 = .ok (.iload_n 2, 1) := by decide +kernel
theorem dX7_two_100 : decode cX7_two 100 = .ok (.isub, 1) := by decide +kernel
theorem dX7_two_101 : decode cX7_two 101 = .ok (.ireturn, 1) := by decide +kernel
theorem dX7_two_102 : decode cX7_two 102 = .ok (.iload_n 1, 1) := by decide +kernel
theorem dX7_two_103 : decode cX7_two 103 = .ok (.iload_n 2, 1) := by decide +kernel
theorem dX7_two_104 : decode cX7_two 104 = .ok (.imul, 1) := by decide +kernel
theorem dX7_two_105 : decode cX7_two 105 = .ok (.ireturn, 1) := by decide +kernel
theorem dX7_says_0 : decode cX7_says 0 = .ok (.iconst 0, 1) := by decide +kernel
theorem dX7_says_1 : decode cX7_says 1 = .ok (.istore_n 2, 1) := by decide +kernel
theorem dX7_says_2 : decode cX7_says 2 = .ok (.aload_n 0, 1) := by decide +kernel
theorem dX7_says_3 : decode cX7_says 3 = .ok (.getfield 28, 3) := by decide +kernel
theorem dX7_says_6 : decode cX7_says 6 = .ok (.iconst 4, 1) := by decide +kernel
theorem dX7_says_7 : decode cX7_says 7 = .ok (.aload_n 0, 1) := by decide +kernel
theorem dX7_says_8 : decode cX7_says 8 = .ok (.getfield 99, 3) := by decide +kernel
theorem dX7_says_11 : decode cX7_says 11 = .ok (.imul, 1) := by decide +kernel
theorem dX7_says_12 : decode cX7_says 12 = .ok (.iload_n 1, 1) := by decide +kernel
theorem dX7_says_13 : decode cX7_says 13 = .ok (.iadd, 1) := by decide +kernel
theorem dX7_says_14 : decode cX7_says 14 = .ok (.iaload, 1) := by decide +kernel
theorem dX7_says_15 : decode cX7_says 15 = .ok (.istore_n 3, 1) := by decide +kernel
theorem dX7_says_16 : decode cX7_says 16 = .ok (.iload_n 3, 1) := by decide +kernel
theorem dX7_says_17 : decode cX7_says 17 = .ok (.aload_n 0, 1) := by decide +kernel
theorem dX7_says_18 : decode cX7_says 18 = .ok (.getfield 28, 3) := by decide +kernel
theorem dX7_says_21 : decode cX7_says 21 = .ok (.iconst 4, 1) := by decide +kernel
theorem dX7_says_22 : decode cX7_says 22 = .ok (.aload_n 0, 1) := by decide +kernel
theorem dX7_says_23 : decode cX7_says 23 = .ok (.getfield 99, 3) := by decide +kernel
theorem dX7_says_26 : decode cX7_says 26 = .ok (.imul, 1) := by decide +kernel
theorem dX7_says_27 : decode cX7_says 27 = .ok (.iload_n 1, 1) := by decide +kernel
theorem dX7_says_28 : decode cX7_says 28 = .ok (.iadd, 1) := by decide +kernel
theorem dX7_says_29 : decode cX7_says 29 = .ok (.iconst 1, 1) := by decide +kernel
theorem dX7_says_30 : decode cX7_says 30 = .ok (.iadd, 1) := by decide +kernel
theorem dX7_says_31 : decode cX7_says 31 = .ok (.iaload, 1) := by decide +kernel
theorem dX7_says_32 : decode cX7_says 32 = .ok (.if_icmp .ge 165, 3) := by decide +kernel
theorem dX7_says_35 : decode cX7_says 35 = .ok (.aload_n 0, 1) := by decide +kernel
theorem dX7_says_36 : decode cX7_says 36 = .ok (.getfield 25, 3) := by decide +kernel
theorem dX7_says_39 : decode cX7_says 39 = .ok (.sipush 200, 3) := by decide +kernel
theorem dX7_says_42 : decode cX7_says 42 = .ok (.aload_n 0, 1) := by decide +kernel
theorem dX7_says_43 : decode cX7_says 43 = .ok (.getfield 99, 3) := by decide +kernel
theorem dX7_says_46 : decode cX7_says 46 = .ok (.imul, 1) := by decide +kernel
theorem dX7_says_47 : decode cX7_says 47 = .ok (.iload_n 3, 1) := by decide +kernel
theorem dX7_says_48 : decode cX7_says 48 = .ok (.iadd, 1) := by decide +kernel
theorem dX7_says_49 : decode cX7_says 49 = .ok (.iaload, 1) := by decide +kernel
theorem dX7_says_50 : decode cX7_says 50 = .ok (.istore 4, 2) := by decide +kernel
theorem dX7_says_52 : decode cX7_says 52 = .ok (.iload 4, 2) := by decide +kernel
theorem dX7_says_54 : decode cX7_says 54 = .ok (.ldc 146, 2) := by decide +kernel
theorem dX7_says_56 : decode cX7_says 56 = .ok (.if_icmp .ge 10, 3) := by decide +kernel
theorem dX7_says_59 : decode cX7_says 59 = .ok (.iload 4, 2) := by decide +kernel
theorem dX7_says_61 : decode cX7_says 61 = .ok (.bipush 11, 2) := by decide +kernel
theorem dX7_says_63 : decode cX7_says 63 = .ok (.if_icmp .ge 37, 3) := by decide +kernel
theorem dX7_says_66 : decode cX7_says 66 = .ok (.aload_n 0, 1) := by decide +kernel
theorem dX7_says_67 : decode cX7_says 67 = .ok (.getfield 55, 3) := by decide +kernel
theorem dX7_says_70 : decode cX7_says 70 = .ok (.iload_n 2, 1) := by decide +kernel
theorem dX7_says_71 : decode cX7_says 71 = .ok (.iload 4, 2) := by decide +kernel
theorem dX7_says_73 : decode cX7_says 73 = .ok (.bipush 11, 2) := by decide +kernel
theorem dX7_says_75 : decode cX7_says 75 = .ok (.if_icmp .ge 13, 3) := by decide +kernel
theorem dX7_says_78 : decode cX7_says 78 = .ok (.aload_n 0, 1) := by decide +kernel
theorem dX7_says_79 : decode cX7_says 79 = .ok (.getfield 58, 3) := by decide +kernel
theorem dX7_says_82 : decode cX7_says 82 = .ok (.iload 4, 2) := by decide +kernel
theorem dX7_says_84 : decode cX7_says 84 = .ok (.iaload, 1) := by decide +kernel
theorem dX7_says_85 : decode cX7_says 85 = .ok (.goto 8, 3) := by decide +kernel
theorem dX7_says_88 : decode cX7_says 88 = .ok (.iload 4, 2) := by decide +kernel
theorem dX7_says_90 : decode cX7_says 90 = .ok (.ldc 146, 2) := by decide +kernel
theorem dX7_says_92 : decode cX7_says 92 = .ok (.isub, 1) := by decide +kernel
theorem dX7_says_93 : decode cX7_says 93 = .ok (.iastore, 1) := by decide +kernel
theorem dX7_says_94 : decode cX7_says 94 = .ok (.iinc 2 1, 3) := by decide +kernel
theorem dX7_says_97 : decode cX7_says 97 = .ok (.goto 94, 3) := by decide +kernel
theorem dX7_says_100 : decode cX7_says 100 = .ok (.iload 4, 2) := by decide +kernel
theorem dX7_says_102 : decode cX7_says 102 = .ok (.bipush 13, 2) := by decide +kernel
theorem dX7_says_104 : decode cX7_says 104 = .ok (.if_icmp .ne 30, 3) := by decide +kernel
theorem dX7_says_107 : decode cX7_says 107 = .ok (.aload_n 0, 1) := by decide +kernel
theorem dX7_says_108 : decode cX7_says 108 = .ok (.getfield 55, 3) := by decide +kernel
theorem dX7_says_111 : decode cX7_says 111 = .ok (.iload_n 2, 1) := by decide +kernel
theorem dX7_says_112 : decode cX7_says 112 = .ok (.iconst 1, 1) := by decide +kernel
theorem dX7_says_113 : decode cX7_says 113 = .ok (.isub, 1) := by decide +kernel
theorem dX7_says_114 : decode cX7_says 114 = .ok (.aload_n 0, 1) := by decide +kernel
theorem dX7_says_115 : decode cX7_says 115 = .ok (.getfield 55, 3) := by decide +kernel
theorem dX7_says_118 : decode cX7_says 118 = .ok (.iload_n 2, 1) := by decide +kernel
theorem dX7_says_119 : decode cX7_says 119 = .ok (.iconst 1, 1) := by decide +kernel
theorem dX7_says_120 : decode cX7_says 120 = .ok (.isub, 1) := by decide +kernel
theorem dX7_says_121 : decode cX7_says 121 = .ok (.iaload, 1) := by decide +kernel
theorem dX7_says_122 : decode cX7_says 122 = .ok (.ifCond .ne 7, 3) := by decide +kernel
theorem dX7_says_125 : decode cX7_says 125 = .ok (.iconst 1, 1) := by decide +kernel
theorem dX7_says_126 : decode cX7_says 126 = .ok (.goto 4, 3) := by decide +kernel
theorem dX7_says_129 : decode cX7_says 129 = .ok (.iconst 0, 1) := by decide +kernel
theorem dX7_says_130 : decode cX7_says 130 = .ok (.iastore, 1) := by decide +kernel
theorem dX7_says_131 : decode cX7_says 131 = .ok (.goto 60, 3) := by decide +kernel
theorem dX7_says_134 : decode cX7_says 134 = .ok (.iload 4, 2) := by decide +kernel
theorem dX7_says_136 : decode cX7_says 136 = .ok (.bipush 19, 2) := by decide +kernel
theorem dX7_says_138 : decode cX7_says 138 = .ok (.if_icmp .ne 23, 3) := by decide +kernel
theorem dX7_says_141 : decode cX7_says 141 = .ok (.aload_n 0, 1) := by decide +kernel
theorem dX7_says_142 : decode cX7_says 142 = .ok (.getfield 55, 3) := by decide +kernel
theorem dX7_says_145 : decode cX7_says 145 = .ok (.iload_n 2, 1) := by decide +kernel
theorem dX7_says_146 : decode cX7_says 146 = .ok (.iconst 1, 1) := by decide +kernel
theorem dX7_says_147 : decode cX7_says 147 = .ok (.isub, 1) := by decide +kernel
theorem dX7_says_148 : decode cX7_says 148 = .ok (.aload_n 0, 1) := by decide +kernel
theorem dX7_says_149 : decode cX7_says 149 = .ok (.getfield 55, 3) := by decide +kernel
theorem dX7_says_152 : decode cX7_says 152 = .ok (.iload_n 2, 1) := by decide +kernel
theorem dX7_says_153 : decode cX7_says 153 = .ok (.iconst 1, 1) := by decide +kernel
theorem dX7_says_154 : decode cX7_says 154 = .ok (.isub, 1) := by decide +kernel
theorem dX7_says_155 : decode cX7_says 155 = .ok (.iaload, 1) := by decide +kernel
theorem dX7_says_156 : decode cX7_says 156 = .ok (.ineg, 1) := by decide +kernel
theorem dX7_says_157 : decode cX7_says 157 = .ok (.iastore, 1) := by decide +kernel
theorem dX7_says_158 : decode cX7_says 158 = .ok (.goto 33, 3) := by decide +kernel
theorem dX7_says_161 : decode cX7_says 161 = .ok (.iinc 2 (-1), 3) := by decide +kernel
theorem dX7_says_164 : decode cX7_says 164 = .ok (.aload_n 0, 1) := by decide +kernel
theorem dX7_says_165 : decode cX7_says 165 = .ok (.getfield 55, 3) := by decide +kernel
theorem dX7_says_168 : decode cX7_says 168 = .ok (.iload_n 2, 1) := by decide +kernel
theorem dX7_says_169 : decode cX7_says 169 = .ok (.iconst 1, 1) := by decide +kernel
theorem dX7_says_170 : decode cX7_says 170 = .ok (.isub, 1) := by decide +kernel
theorem dX7_says_171 : decode cX7_says 171 = .ok (.iload 4, 2) := by decide +kernel
theorem dX7_says_173 : decode cX7_says 173 = .ok (.aload_n 0, 1) := by decide +kernel
theorem dX7_says_174 : decode cX7_says 174 = .ok (.getfield 55, 3) := by decide +kernel
theorem dX7_says_177 : decode cX7_says 177 = .ok (.iload_n 2, 1) := by decide +kernel
theorem dX7_says_178 : decode cX7_says 178 = .ok (.iconst 1, 1) := by decide +kernel
theorem dX7_says_179 : decode cX7_says 179 = .ok (.isub, 1) := by decide +kernel
theorem dX7_says_180 : decode cX7_says 180 = .ok (.iaload, 1) := by decide +kernel
theorem dX7_says_181 : decode cX7_says 181 = .ok (.aload_n 0, 1) := by decide +kernel
theorem dX7_says_182 : decode cX7_says 182 = .ok (.getfield 55, 3) := by decide +kernel
theorem dX7_says_185 : decode cX7_says 185 = .ok (.iload_n 2, 1) := by decide +kernel
theorem dX7_says_186 : decode cX7_says 186 = .ok (.iaload, 1) := by decide +kernel
theorem dX7_says_187 : decode cX7_says 187 = .ok (.invokestatic 160, 3) := by decide +kernel
theorem dX7_says_190 : decode cX7_says 190 = .ok (.iastore, 1) := by decide +kernel
theorem dX7_says_191 : decode cX7_says 191 = .ok (.iinc 3 1, 3) := by decide +kernel
theorem dX7_says_194 : decode cX7_says 194 = .ok (.goto (-178), 3) := by decide +kernel
theorem dX7_says_197 : decode cX7_says 197 = .ok (.aload_n 0, 1) := by decide +kernel
theorem dX7_says_198 : decode cX7_says 198 = .ok (.getfield 55, 3) := by decide +kernel
theorem dX7_says_201 : decode cX7_says 201 = .ok (.iconst 0, 1) := by decide +kernel
theorem dX7_says_202 : decode cX7_says 202 = .ok (.iaload, 1) := by decide +kernel
theorem dX7_says_203 : decode cX7_says 203 = .ok (.ireturn, 1) := by decide +kernel
theorem dX7_force_0 : decode cX7_force 0 = .ok (.iload_n 1, 1) := by decide +kernel
theorem dX7_force_1 : decode cX7_force 1 = .ok (.iconst 0, 1) := by decide +kernel
theorem dX7_force_2 : decode cX7_force 2 = .ok (.aload_n 0, 1) := by decide +kernel
theorem dX7_force_3 : decode cX7_force 3 = .ok (.getfield 96, 3) := by decide +kernel
theorem dX7_force_6 : decode cX7_force 6 = .ok (.iconst 1, 1) := by decide +kernel
theorem dX7_force_7 : decode cX7_force 7 = .ok (.isub, 1) := by decide +kernel
theorem dX7_force_8 : decode cX7_force 8 = .ok (.invokestatic 75, 3) := by decide +kernel
theorem dX7_force_11 : decode cX7_force 11 = .ok (.ifCond .ne 6, 3) := by decide +kernel
theorem dX7_force_14 : decode cX7_force 14 = .ok (.bipush (-2), 2) := by decide +kernel
theorem dX7_force_16 : decode cX7_force 16 = .ok (.ireturn, 1) := by decide +kernel
theorem dX7_force_17 : decode cX7_force 17 = .ok (.aload_n 0, 1) := by decide +kernel
theorem dX7_force_18 : decode cX7_force 18 = .ok (.getfield 99, 3) := by decide +kernel
theorem dX7_force_21 : decode cX7_force 21 = .ok (.istore_n 2, 1) := by decide +kernel
theorem dX7_force_22 : decode cX7_force 22 = .ok (.aload_n 0, 1) := by decide +kernel
theorem dX7_force_23 : decode cX7_force 23 = .ok (.iload_n 1, 1) := by decide +kernel
theorem dX7_force_24 : decode cX7_force 24 = .ok (.putfield 99, 3) := by decide +kernel
theorem dX7_force_27 : decode cX7_force 27 = .ok (.iload_n 2, 1) := by decide +kernel
theorem dX7_force_28 : decode cX7_force 28 = .ok (.ireturn, 1) := by decide +kernel
theorem dX7_asksOf_0 : decode cX7_asksOf 0 = .ok (.aload_n 0, 1) := by decide +kernel
theorem dX7_asksOf_1 : decode cX7_asksOf 1 = .ok (.getfield 58, 3) := by decide +kernel
theorem dX7_asksOf_4 : decode cX7_asksOf 4 = .ok (.iconst 0, 1) := by decide +kernel
theorem dX7_asksOf_5 : decode cX7_asksOf 5 = .ok (.aload_n 0, 1) := by decide +kernel
theorem dX7_asksOf_6 : decode cX7_asksOf 6 = .ok (.getfield 16, 3) := by decide +kernel
theorem dX7_asksOf_9 : decode cX7_asksOf 9 = .ok (.iconst 4, 1) := by decide +kernel
theorem dX7_asksOf_10 : decode cX7_asksOf 10 = .ok (.iload_n 2, 1) := by decide +kernel
theorem dX7_asksOf_11 : decode cX7_asksOf 11 = .ok (.imul, 1) := by decide +kernel
theorem dX7_asksOf_12 : decode cX7_asksOf 12 = .ok (.iconst 1, 1) := by decide +kernel
theorem dX7_asksOf_13 : decode cX7_asksOf 13 = .ok (.iadd, 1) := by decide +kernel
theorem dX7_asksOf_14 : decode cX7_asksOf 14 = .ok (.iaload, 1) := by decide +kernel
theorem dX7_asksOf_15 : decode cX7_asksOf 15 = .ok (.iastore, 1) := by decide +kernel
theorem dX7_asksOf_16 : decode cX7_asksOf 16 = .ok (.aload_n 0, 1) := by decide +kernel
theorem dX7_asksOf_17 : decode cX7_asksOf 17 = .ok (.getfield 58, 3) := by decide +kernel
theorem dX7_asksOf_20 : decode cX7_asksOf 20 = .ok (.iconst 1, 1) := by decide +kernel
theorem dX7_asksOf_21 : decode cX7_asksOf 21 = .ok (.aload_n 0, 1) := by decide +kernel
theorem dX7_asksOf_22 : decode cX7_asksOf 22 = .ok (.getfield 16, 3) := by decide +kernel
theorem dX7_asksOf_25 : decode cX7_asksOf 25 = .ok (.iconst 4, 1) := by decide +kernel
theorem dX7_asksOf_26 : decode cX7_asksOf 26 = .ok (.iload_n 2, 1) := by decide +kernel
theorem dX7_asksOf_27 : decode cX7_asksOf 27 = .ok (.imul, 1) := by decide +kernel
theorem dX7_asksOf_28 : decode cX7_asksOf 28 = .ok (.iconst 2, 1) := by decide +kernel
theorem dX7_asksOf_29 : decode cX7_asksOf 29 = .ok (.iadd, 1) := by decide +kernel
theorem dX7_asksOf_30 : decode cX7_asksOf 30 = .ok (.iaload, 1) := by decide +kernel
theorem dX7_asksOf_31 : decode cX7_asksOf 31 = .ok (.iastore, 1) := by decide +kernel
theorem dX7_asksOf_32 : decode cX7_asksOf 32 = .ok (.aload_n 0, 1) := by decide +kernel
theorem dX7_asksOf_33 : decode cX7_asksOf 33 = .ok (.getfield 58, 3) := by decide +kernel
theorem dX7_asksOf_36 : decode cX7_asksOf 36 = .ok (.iconst 2, 1) := by decide +kernel
theorem dX7_asksOf_37 : decode cX7_asksOf 37 = .ok (.aload_n 0, 1) := by decide +kernel
theorem dX7_asksOf_38 : decode cX7_asksOf 38 = .ok (.getfield 86, 3) := by decide +kernel
theorem dX7_asksOf_41 : decode cX7_asksOf 41 = .ok (.iastore, 1) := by decide +kernel
theorem dX7_asksOf_42 : decode cX7_asksOf 42 = .ok (.aload_n 0, 1) := by decide +kernel
theorem dX7_asksOf_43 : decode cX7_asksOf 43 = .ok (.getfield 58, 3) := by decide +kernel
theorem dX7_asksOf_46 : decode cX7_asksOf 46 = .ok (.iconst 3, 1) := by decide +kernel
theorem dX7_asksOf_47 : decode cX7_asksOf 47 = .ok (.aload_n 0, 1) := by decide +kernel
theorem dX7_asksOf_48 : decode cX7_asksOf 48 = .ok (.invokevirtual 89, 3) := by decide +kernel
theorem dX7_asksOf_51 : decode cX7_asksOf 51 = .ok (.invokestatic 92, 3) := by decide +kernel
theorem dX7_asksOf_54 : decode cX7_asksOf 54 = .ok (.iastore, 1) := by decide +kernel
theorem dX7_asksOf_55 : decode cX7_asksOf 55 = .ok (.aload_n 0, 1) := by decide +kernel
theorem dX7_asksOf_56 : decode cX7_asksOf 56 = .ok (.getfield 58, 3) := by decide +kernel
theorem dX7_asksOf_59 : decode cX7_asksOf 59 = .ok (.iconst 4, 1) := by decide +kernel
theorem dX7_asksOf_60 : decode cX7_asksOf 60 = .ok (.aload_n 0, 1) := by decide +kernel
theorem dX7_asksOf_61 : decode cX7_asksOf 61 = .ok (.getfield 16, 3) := by decide +kernel
theorem dX7_asksOf_64 : decode cX7_asksOf 64 = .ok (.iconst 4, 1) := by decide +kernel
theorem dX7_asksOf_65 : decode cX7_asksOf 65 = .ok (.iload_n 2, 1) := by decide +kernel
theorem dX7_asksOf_66 : decode cX7_asksOf 66 = .ok (.imul, 1) := by decide +kernel
theorem dX7_asksOf_67 : decode cX7_asksOf 67 = .ok (.iconst 3, 1) := by decide +kernel
theorem dX7_asksOf_68 : decode cX7_asksOf 68 = .ok (.iadd, 1) := by decide +kernel
theorem dX7_asksOf_69 : decode cX7_asksOf 69 = .ok (.iaload, 1) := by decide +kernel
theorem dX7_asksOf_70 : decode cX7_asksOf 70 = .ok (.iastore, 1) := by decide +kernel
theorem dX7_asksOf_71 : decode cX7_asksOf 71 = .ok (.aload_n 0, 1) := by decide +kernel
theorem dX7_asksOf_72 : decode cX7_asksOf 72 = .ok (.getfield 58, 3) := by decide +kernel
theorem dX7_asksOf_75 : decode cX7_asksOf 75 = .ok (.iconst 5, 1) := by decide +kernel
theorem dX7_asksOf_76 : decode cX7_asksOf 76 = .ok (.aload_n 0, 1) := by decide +kernel
theorem dX7_asksOf_77 : decode cX7_asksOf 77 = .ok (.getfield 13, 3) := by decide +kernel
theorem dX7_asksOf_80 : decode cX7_asksOf 80 = .ok (.iload_n 2, 1) := by decide +kernel
theorem dX7_asksOf_81 : decode cX7_asksOf 81 = .ok (.iaload, 1) := by decide +kernel
theorem dX7_asksOf_82 : decode cX7_asksOf 82 = .ok (.iastore, 1) := by decide +kernel
theorem dX7_asksOf_83 : decode cX7_asksOf 83 = .ok (.aload_n 0, 1) := by decide +kernel
theorem dX7_asksOf_84 : decode cX7_asksOf 84 = .ok (.iload_n 1, 1) := by decide +kernel
theorem dX7_asksOf_85 : decode cX7_asksOf 85 = .ok (.invokevirtual 164, 3) := by decide +kernel
theorem dX7_asksOf_88 : decode cX7_asksOf 88 = .ok (.iload_n 1, 1) := by decide +kernel
theorem dX7_asksOf_89 : decode cX7_asksOf 89 = .ok (.iconst 2, 1) := by decide +kernel
theorem dX7_asksOf_90 : decode cX7_asksOf 90 = .ok (.if_icmp .ne 8, 3) := by decide +kernel
theorem dX7_asksOf_93 : decode cX7_asksOf 93 = .ok (.bipush (-99), 2) := by decide +kernel
theorem dX7_asksOf_95 : decode cX7_asksOf 95 = .ok (.goto 4, 3) := by decide +kernel
theorem dX7_asksOf_98 : decode cX7_asksOf 98 = .ok (.iconst 0, 1) := by decide +kernel
theorem dX7_asksOf_99 : decode cX7_asksOf 99 = .ok (.bipush 99, 2) := by decide +kernel
theorem dX7_asksOf_101 : decode cX7_asksOf 101 = .ok (.invokestatic 167, 3) := by decide +kernel
theorem dX7_asksOf_104 : decode cX7_asksOf 104 = .ok (.ireturn, 1) := by decide +kernel
theorem dX7_asks_0 : decode cX7_asks 0 = .ok (.iload_n 1, 1) := by decide +kernel
theorem dX7_asks_1 : decode cX7_asks 1 = .ok (.iconst 0, 1) := by decide +kernel
theorem dX7_asks_2 : decode cX7_asks 2 = .ok (.iconst 2, 1) := by decide +kernel
theorem dX7_asks_3 : decode cX7_asks 3 = .ok (.invokestatic 75, 3) := by decide +kernel
theorem dX7_asks_6 : decode cX7_asks 6 = .ok (.ifCond .eq 20, 3) := by decide +kernel
theorem dX7_asks_9 : decode cX7_asks 9 = .ok (.aload_n 0, 1) := by decide +kernel
theorem dX7_asks_10 : decode cX7_asks 10 = .ok (.iload_n 2, 1) := by decide +kernel
theorem dX7_asks_11 : decode cX7_asks 11 = .ok (.invokevirtual 79, 3) := by decide +kernel
theorem dX7_asks_14 : decode cX7_asks 14 = .ok (.ifCond .eq 12, 3) := by decide +kernel
theorem dX7_asks_17 : decode cX7_asks 17 = .ok (.aload_n 0, 1) := by decide +kernel
theorem dX7_asks_18 : decode cX7_asks 18 = .ok (.iload_n 1, 1) := by decide +kernel
theorem dX7_asks_19 : decode cX7_asks 19 = .ok (.iload_n 2, 1) := by decide +kernel
theorem dX7_asks_20 : decode cX7_asks 20 = .ok (.invokevirtual 170, 3) := by decide +kernel
theorem dX7_asks_23 : decode cX7_asks 23 = .ok (.goto 6, 3) := by decide +kernel
theorem dX7_asks_26 : decode cX7_asks 26 = .ok (.sipush (-1000), 3) := by decide +kernel
theorem dX7_asks_29 : decode cX7_asks 29 = .ok (.ireturn, 1) := by decide +kernel
theorem dX7_hat_0 : decode cX7_hat 0 = .ok (.iload_n 1, 1) := by decide +kernel
theorem dX7_hat_1 : decode cX7_hat 1 = .ok (.iconst 0, 1) := by decide +kernel
theorem dX7_hat_2 : decode cX7_hat 2 = .ok (.bipush 59, 2) := by decide +kernel
theorem dX7_hat_4 : decode cX7_hat 4 = .ok (.invokestatic 75, 3) := by decide +kernel
theorem dX7_hat_7 : decode cX7_hat 7 = .ok (.ifCond .eq 24, 3) := by decide +kernel
theorem dX7_hat_10 : decode cX7_hat 10 = .ok (.iload_n 2, 1) := by decide +kernel
theorem dX7_hat_11 : decode cX7_hat 11 = .ok (.iconst 0, 1) := by decide +kernel
theorem dX7_hat_12 : decode cX7_hat 12 = .ok (.bipush 63, 2) := by decide +kernel
theorem dX7_hat_14 : decode cX7_hat 14 = .ok (.invokestatic 75, 3) := by decide +kernel
theorem dX7_hat_17 : decode cX7_hat 17 = .ok (.ifCond .eq 14, 3) := by decide +kernel
theorem dX7_hat_20 : decode cX7_hat 20 = .ok (.iload_n 3, 1) := by decide +kernel
theorem dX7_hat_21 : decode cX7_hat 21 = .ok (.iconst 0, 1) := by decide +kernel
theorem dX7_hat_22 : decode cX7_hat 22 = .ok (.sipush 9999, 3) := by decide +kernel
theorem dX7_hat_25 : decode cX7_hat 25 = .ok (.invokestatic 75, 3) := by decide +kernel
theorem dX7_hat_28 : decode cX7_hat 28 = .ok (.ifCond .ne 6, 3) := by decide +kernel
theorem dX7_hat_31 : decode cX7_hat 31 = .ok (.bipush (-2), 2) := by decide +kernel
theorem dX7_hat_33 : decode cX7_hat 33 = .ok (.ireturn, 1) := by decide +kernel
theorem dX7_hat_34 : decode cX7_hat 34 = .ok (.aload_n 0, 1) := by decide +kernel
theorem dX7_hat_35 : decode cX7_hat 35 = .ok (.getfield 72, 3) := by decide +kernel
theorem dX7_hat_38 : decode cX7_hat 38 = .ok (.bipush 6, 2) := by decide +kernel
theorem dX7_hat_40 : decode cX7_hat 40 = .ok (.if_icmp .ne 6, 3) := by decide +kernel
theorem dX7_hat_43 : decode cX7_hat 43 = .ok (.bipush (-4), 2) := by decide +kernel
theorem dX7_hat_45 : decode cX7_hat 45 = .ok (.ireturn, 1) := by decide +kernel
theorem dX7_hat_46 : decode cX7_hat 46 = .ok (.aload_n 0, 1) := by decide +kernel
theorem dX7_hat_47 : decode cX7_hat 47 = .ok (.getfield 7, 3) := by decide +kernel
theorem dX7_hat_50 : decode cX7_hat 50 = .ok (.aload_n 0, 1) := by decide +kernel
theorem dX7_hat_51 : decode cX7_hat 51 = .ok (.getfield 72, 3) := by decide +kernel
theorem dX7_hat_54 : decode cX7_hat 54 = .ok (.iload_n 1, 1) := by decide +kernel
theorem dX7_hat_55 : decode cX7_hat 55 = .ok (.bipush 10, 2) := by decide +kernel
theorem dX7_hat_57 : decode cX7_hat 57 = .ok (.idiv, 1) := by decide +kernel
theorem dX7_hat_58 : decode cX7_hat 58 = .ok (.iastore, 1) := by decide +kernel
theorem dX7_hat_59 : decode cX7_hat 59 = .ok (.aload_n 0, 1) := by decide +kernel
theorem dX7_hat_60 : decode cX7_hat 60 = .ok (.getfield 13, 3) := by decide +kernel
theorem dX7_hat_63 : decode cX7_hat 63 = .ok (.aload_n 0, 1) := by decide +kernel
theorem dX7_hat_64 : decode cX7_hat 64 = .ok (.getfield 72, 3) := by decide +kernel
theorem dX7_hat_67 : decode cX7_hat 67 = .ok (.iload_n 1, 1) := by decide +kernel
theorem dX7_hat_68 : decode cX7_hat 68 = .ok (.bipush 10, 2) := by decide +kernel
theorem dX7_hat_70 : decode cX7_hat 70 = .ok (.irem, 1) := by decide +kernel
theorem dX7_hat_71 : decode cX7_hat 71 = .ok (.iastore, 1) := by decide +kernel
theorem dX7_hat_72 : decode cX7_hat 72 = .ok (.aload_n 0, 1) := by decide +kernel
theorem dX7_hat_73 : decode cX7_hat 73 = .ok (.getfield 16, 3) := by decide +kernel
theorem dX7_hat_76 : decode cX7_hat 76 = .ok (.iconst 4, 1) := by decide +kernel
theorem dX7_hat_77 : decode cX7_hat 77 = .ok (.aload_n 0, 1) := by decide +kernel
theorem dX7_hat_78 : decode cX7_hat 78 = .ok (.getfield 72, 3) := by decide +kernel
theorem dX7_hat_81 : decode cX7_hat 81 = .ok (.imul, 1) := by decide +kernel
theorem dX7_hat_82 : decode cX7_hat 82 = .ok (.iload_n 2, 1) := by decide +kernel
theorem dX7_hat_83 : decode cX7_hat 83 = .ok (.iastore, 1) := by decide +kernel
theorem dX7_hat_84 : decode cX7_hat 84 = .ok (.aload_n 0, 1) := by decide +kernel
theorem dX7_hat_85 : decode cX7_hat 85 = .ok (.getfield 16, 3) := by decide +kernel
theorem dX7_hat_88 : decode cX7_hat 88 = .ok (.iconst 4, 1) := by decide +kernel
theorem dX7_hat_89 : decode cX7_hat 89 = .ok (.aload_n 0, 1) := by decide +kernel
theorem dX7_hat_90 : decode cX7_hat 90 = .ok (.getfield 72, 3) := by decide +kernel
theorem dX7_hat_93 : decode cX7_hat 93 = .ok (.imul, 1) := by decide +kernel
theorem dX7_hat_94 : decode cX7_hat 94 = .ok (.iconst 1, 1) := by decide +kernel
theorem dX7_hat_95 : decode cX7_hat 95 = .ok (.iadd, 1) := by decide +kernel
theorem dX7_hat_96 : decode cX7_hat 96 = .ok (.iload_n 3, 1) := by decide +kernel
theorem dX7_hat_97 : decode cX7_hat 97 = .ok (.bipush 100, 2) := by decide +kernel
theorem dX7_hat_99 : decode cX7_hat 99 = .ok (.idiv, 1) := by decide +kernel
theorem dX7_hat_100 : decode cX7_hat 100 = .ok (.iastore, 1) := by decide +kernel
theorem dX7_hat_101 : decode cX7_hat 101 = .ok (.aload_n 0, 1) := by decide +kernel
theorem dX7_hat_102 : decode cX7_hat 102 = .ok (.getfield 16, 3) := by decide +kernel
theorem dX7_hat_105 : decode cX7_hat 105 = .ok (.iconst 4, 1) := by decide +kernel
theorem dX7_hat_106 : decode cX7_hat 106 = .ok (.aload_n 0, 1) := by decide +kernel
theorem dX7_hat_107 : decode cX7_hat 107 = .ok (.getfield 72, 3) := by decide +kernel
theorem dX7_hat_110 : decode cX7_hat 110 = .ok (.imul, 1) := by decide +kernel
theorem dX7_hat_111 : decode cX7_hat 111 = .ok (.iconst 2, 1) := by decide +kernel
theorem dX7_hat_112 : decode cX7_hat 112 = .ok (.iadd, 1) := by decide +kernel
theorem dX7_hat_113 : decode cX7_hat 113 = .ok (.iload_n 3, 1) := by decide +kernel
theorem dX7_hat_114 : decode cX7_hat 114 = .ok (.bipush 100, 2) := by decide +kernel
theorem dX7_hat_116 : decode cX7_hat 116 = .ok (.irem, 1) := by decide +kernel
theorem dX7_hat_117 : decode cX7_hat 117 = .ok (.iastore, 1) := by decide +kernel
theorem dX7_hat_118 : decode cX7_hat 118 = .ok (.aload_n 0, 1) := by decide +kernel
theorem dX7_hat_119 : decode cX7_hat 119 = .ok (.getfield 16, 3) := by decide +kernel
theorem dX7_hat_122 : decode cX7_hat 122 = .ok (.iconst 4, 1) := by decide +kernel
theorem dX7_hat_123 : decode cX7_hat 123 = .ok (.aload_n 0, 1) := by decide +kernel
theorem dX7_hat_124 : decode cX7_hat 124 = .ok (.getfield 72, 3) := by decide +kernel
theorem dX7_hat_127 : decode cX7_hat 127 = .ok (.imul, 1) := by decide +kernel
theorem dX7_hat_128 : decode cX7_hat 128 = .ok (.iconst 3, 1) := by decide +kernel
theorem dX7_hat_129 : decode cX7_hat 129 = .ok (.iadd, 1) := by decide +kernel
theorem dX7_hat_130 : decode cX7_hat 130 = .ok (.iconst 0, 1) := by decide +kernel
theorem dX7_hat_131 : decode cX7_hat 131 = .ok (.iastore, 1) := by decide +kernel
theorem dX7_hat_132 : decode cX7_hat 132 = .ok (.iconst 0, 1) := by decide +kernel
theorem dX7_hat_133 : decode cX7_hat 133 = .ok (.istore 4, 2) := by decide +kernel
theorem dX7_hat_135 : decode cX7_hat 135 = .ok (.iload 4, 2) := by decide +kernel
theorem dX7_hat_137 : decode cX7_hat 137 = .ok (.bipush 6, 2) := by decide +kernel
theorem dX7_hat_139 : decode cX7_hat 139 = .ok (.if_icmp .ge 41, 3) := by decide +kernel
theorem dX7_hat_142 : decode cX7_hat 142 = .ok (.aload_n 0, 1) := by decide +kernel
theorem dX7_hat_143 : decode cX7_hat 143 = .ok (.getfield 19, 3) := by decide +kernel
theorem dX7_hat_146 : decode cX7_hat 146 = .ok (.bipush 6, 2) := by decide +kernel
theorem dX7_hat_148 : decode cX7_hat 148 = .ok (.aload_n 0, 1) := by decide +kernel
theorem dX7_hat_149 : decode cX7_hat 149 = .ok (.getfield 72, 3) := by decide +kernel
theorem dX7_hat_152 : decode cX7_hat 152 = .ok (.imul, 1) := by decide +kernel
theorem dX7_hat_153 : decode cX7_hat 153 = .ok (.iload 4, 2) := by decide +kernel
theorem dX7_hat_155 : decode cX7_hat 155 = .ok (.iadd, 1) := by decide +kernel
theorem dX7_hat_156 : decode cX7_hat 156 = .ok (.iconst 0, 1) := by decide +kernel
theorem dX7_hat_157 : decode cX7_hat 157 = .ok (.iastore, 1) := by decide +kernel
theorem dX7_hat_158 : decode cX7_hat 158 = .ok (.aload_n 0, 1) := by decide +kernel
theorem dX7_hat_159 : decode cX7_hat 159 = .ok (.getfield 19, 3) := by decide +kernel
theorem dX7_hat_162 : decode cX7_hat 162 = .ok (.bipush 6, 2) := by decide +kernel
theorem dX7_hat_164 : decode cX7_hat 164 = .ok (.iload 4, 2) := by decide +kernel
theorem dX7_hat_166 : decode cX7_hat 166 = .ok (.imul, 1) := by decide +kernel
theorem dX7_hat_167 : decode cX7_hat 167 = .ok (.aload_n 0, 1) := by decide +kernel
theorem dX7_hat_168 : decode cX7_hat 168 = .ok (.getfield 72, 3) := by decide +kernel
theorem dX7_hat_171 : decode cX7_hat 171 = .ok (.iadd, 1) := by decide +kernel
theorem dX7_hat_172 : decode cX7_hat 172 = .ok (.iconst 0, 1) := by decide +kernel
theorem dX7_hat_173 : decode cX7_hat 173 = .ok (.iastore, 1) := by decide +kernel
theorem dX7_hat_174 : decode cX7_hat 174 = .ok (.iinc 4 1, 3) := by decide +kernel
theorem dX7_hat_177 : decode cX7_hat 177 = .ok (.goto (-42), 3) := by decide +kernel
theorem dX7_hat_180 : decode cX7_hat 180 = .ok (.aload_n 0, 1) := by decide +kernel
theorem dX7_hat_181 : decode cX7_hat 181 = .ok (.dup, 1) := by decide +kernel
theorem dX7_hat_182 : decode cX7_hat 182 = .ok (.getfield 72, 3) := by decide +kernel
theorem dX7_hat_185 : decode cX7_hat 185 = .ok (.iconst 1, 1) := by decide +kernel
theorem dX7_hat_186 : decode cX7_hat 186 = .ok (.iadd, 1) := by decide +kernel
theorem dX7_hat_187 : decode cX7_hat 187 = .ok (.putfield 72, 3) := by decide +kernel
theorem dX7_hat_190 : decode cX7_hat 190 = .ok (.aload_n 0, 1) := by decide +kernel
theorem dX7_hat_191 : decode cX7_hat 191 = .ok (.getfield 72, 3) := by decide +kernel
theorem dX7_hat_194 : decode cX7_hat 194 = .ok (.iconst 1, 1) := by decide +kernel
theorem dX7_hat_195 : decode cX7_hat 195 = .ok (.isub, 1) := by decide +kernel
theorem dX7_hat_196 : decode cX7_hat 196 = .ok (.ireturn, 1) := by decide +kernel
theorem dX7_put_0 : decode cX7_put 0 = .ok (.aload_n 0, 1) := by decide +kernel
theorem dX7_put_1 : decode cX7_put 1 = .ok (.iload_n 1, 1) := by decide +kernel
theorem dX7_put_2 : decode cX7_put 2 = .ok (.invokevirtual 79, 3) := by decide +kernel
theorem dX7_put_5 : decode cX7_put 5 = .ok (.ifCond .ne 6, 3) := by decide +kernel
theorem dX7_put_8 : decode cX7_put 8 = .ok (.bipush (-5), 2) := by decide +kernel
theorem dX7_put_10 : decode cX7_put 10 = .ok (.ireturn, 1) := by decide +kernel
theorem dX7_put_11 : decode cX7_put 11 = .ok (.iload_n 2, 1) := by decide +kernel
theorem dX7_put_12 : decode cX7_put 12 = .ok (.iconst 0, 1) := by decide +kernel
theorem dX7_put_13 : decode cX7_put 13 = .ok (.iconst 3, 1) := by decide +kernel
theorem dX7_put_14 : decode cX7_put 14 = .ok (.invokestatic 75, 3) := by decide +kernel
theorem dX7_put_17 : decode cX7_put 17 = .ok (.ifCond .eq 22, 3) := by decide +kernel
theorem dX7_put_20 : decode cX7_put 20 = .ok (.iload_n 3, 1) := by decide +kernel
theorem dX7_put_21 : decode cX7_put 21 = .ok (.iconst 0, 1) := by decide +kernel
theorem dX7_put_22 : decode cX7_put 22 = .ok (.iload_n 2, 1) := by decide +kernel
theorem dX7_put_23 : decode cX7_put 23 = .ok (.ifCond .ne 8, 3) := by decide +kernel
theorem dX7_put_26 : decode cX7_put 26 = .ok (.bipush 63, 2) := by decide +kernel
theorem dX7_put_28 : decode cX7_put 28 = .ok (.goto 5, 3) := by decide +kernel
theorem dX7_put_31 : decode cX7_put 31 = .ok (.bipush 99, 2) := by decide +kernel
theorem dX7_put_33 : decode cX7_put 33 = .ok (.invokestatic 75, 3) := by decide +kernel
theorem dX7_put_36 : decode cX7_put 36 = .ok (.ifCond .ne 6, 3) := by decide +kernel
theorem dX7_put_39 : decode cX7_put 39 = .ok (.bipush (-7), 2) := by decide +kernel
theorem dX7_put_41 : decode cX7_put 41 = .ok (.ireturn, 1) := by decide +kernel
theorem dX7_put_42 : decode cX7_put 42 = .ok (.aload_n 0, 1) := by decide +kernel
theorem dX7_put_43 : decode cX7_put 43 = .ok (.getfield 16, 3) := by decide +kernel
theorem dX7_put_46 : decode cX7_put 46 = .ok (.iconst 4, 1) := by decide +kernel
theorem dX7_put_47 : decode cX7_put 47 = .ok (.iload_n 1, 1) := by decide +kernel
theorem dX7_put_48 : decode cX7_put 48 = .ok (.imul, 1) := by decide +kernel
theorem dX7_put_49 : decode cX7_put 49 = .ok (.iload_n 2, 1) := by decide +kernel
theorem dX7_put_50 : decode cX7_put 50 = .ok (.iadd, 1) := by decide +kernel
theorem dX7_put_51 : decode cX7_put 51 = .ok (.iaload, 1) := by decide +kernel
theorem dX7_put_52 : decode cX7_put 52 = .ok (.istore 4, 2) := by decide +kernel
theorem dX7_put_54 : decode cX7_put 54 = .ok (.aload_n 0, 1) := by decide +kernel
theorem dX7_put_55 : decode cX7_put 55 = .ok (.getfield 16, 3) := by decide +kernel
theorem dX7_put_58 : decode cX7_put 58 = .ok (.iconst 4, 1) := by decide +kernel
theorem dX7_put_59 : decode cX7_put 59 = .ok (.iload_n 1, 1) := by decide +kernel
theorem dX7_put_60 : decode cX7_put 60 = .ok (.imul, 1) := by decide +kernel
theorem dX7_put_61 : decode cX7_put 61 = .ok (.iload_n 2, 1) := by decide +kernel
theorem dX7_put_62 : decode cX7_put 62 = .ok (.iadd, 1) := by decide +kernel
theorem dX7_put_63 : decode cX7_put 63 = .ok (.iload_n 3, 1) := by decide +kernel
theorem dX7_put_64 : decode cX7_put 64 = .ok (.iastore, 1) := by decide +kernel
theorem dX7_put_65 : decode cX7_put 65 = .ok (.iload 4, 2) := by decide +kernel
theorem dX7_put_67 : decode cX7_put 67 = .ok (.ireturn, 1) := by decide +kernel
theorem dX7_goes_0 : decode cX7_goes 0 = .ok (.aload_n 0, 1) := by decide +kernel
theorem dX7_goes_1 : decode cX7_goes 1 = .ok (.getfield 7, 3) := by decide +kernel
theorem dX7_goes_4 : decode cX7_goes 4 = .ok (.iload_n 1, 1) := by decide +kernel
theorem dX7_goes_5 : decode cX7_goes 5 = .ok (.iaload, 1) := by decide +kernel
theorem dX7_goes_6 : decode cX7_goes 6 = .ok (.iconst 5, 1) := by decide +kernel
theorem dX7_goes_7 : decode cX7_goes 7 = .ok (.if_icmp .ne 5, 3) := by decide +kernel
theorem dX7_goes_10 : decode cX7_goes 10 = .ok (.iconst 0, 1) := by decide +kernel
theorem dX7_goes_11 : decode cX7_goes 11 = .ok (.ireturn, 1) := by decide +kernel
theorem dX7_goes_12 : decode cX7_goes 12 = .ok (.aload_n 0, 1) := by decide +kernel
theorem dX7_goes_13 : decode cX7_goes 13 = .ok (.iconst 0, 1) := by decide +kernel
theorem dX7_goes_14 : decode cX7_goes 14 = .ok (.iload_n 1, 1) := by decide +kernel
theorem dX7_goes_15 : decode cX7_goes 15 = .ok (.invokevirtual 170, 3) := by decide +kernel
theorem dX7_goes_18 : decode cX7_goes 18 = .ok (.ifCond .eq 7, 3) := by decide +kernel
theorem dX7_goes_21 : decode cX7_goes 21 = .ok (.iconst 1, 1) := by decide +kernel
theorem dX7_goes_22 : decode cX7_goes 22 = .ok (.goto 4, 3) := by decide +kernel
theorem dX7_goes_25 : decode cX7_goes 25 = .ok (.iconst 0, 1) := by decide +kernel
theorem dX7_goes_26 : decode cX7_goes 26 = .ok (.istore_n 2, 1) := by decide +kernel
theorem dX7_goes_27 : decode cX7_goes 27 = .ok (.aload_n 0, 1) := by decide +kernel
theorem dX7_goes_28 : decode cX7_goes 28 = .ok (.getfield 7, 3) := by decide +kernel
theorem dX7_goes_31 : decode cX7_goes 31 = .ok (.iload_n 1, 1) := by decide +kernel
theorem dX7_goes_32 : decode cX7_goes 32 = .ok (.iaload, 1) := by decide +kernel
theorem dX7_goes_33 : decode cX7_goes 33 = .ok (.tableswitch 77 2 4 #[27, 54, 27], 27) := by decide +kernel
theorem dX7_goes_60 : decode cX7_goes 60 = .ok (.iload_n 2, 1) := by decide +kernel
theorem dX7_goes_61 : decode cX7_goes 61 = .ok (.ifCond .ne 20, 3) := by decide +kernel
theorem dX7_goes_64 : decode cX7_goes 64 = .ok (.aload_n 0, 1) := by decide +kernel
theorem dX7_goes_65 : decode cX7_goes 65 = .ok (.getfield 86, 3) := by decide +kernel
theorem dX7_goes_68 : decode cX7_goes 68 = .ok (.iconst 3, 1) := by decide +kernel
theorem dX7_goes_69 : decode cX7_goes 69 = .ok (.irem, 1) := by decide +kernel
theorem dX7_goes_70 : decode cX7_goes 70 = .ok (.aload_n 0, 1) := by decide +kernel
theorem dX7_goes_71 : decode cX7_goes 71 = .ok (.getfield 13, 3) := by decide +kernel
theorem dX7_goes_74 : decode cX7_goes 74 = .ok (.iload_n 1, 1) := by decide +kernel
theorem dX7_goes_75 : decode cX7_goes 75 = .ok (.iaload, 1) := by decide +kernel
theorem dX7_goes_76 : decode cX7_goes 76 = .ok (.iconst 3, 1) := by decide +kernel
theorem dX7_goes_77 : decode cX7_goes 77 = .ok (.irem, 1) := by decide +kernel
theorem dX7_goes_78 : decode cX7_goes 78 = .ok (.if_icmp .ne 7, 3) := by decide +kernel
theorem dX7_goes_81 : decode cX7_goes 81 = .ok (.iconst 1, 1) := by decide +kernel
theorem dX7_goes_82 : decode cX7_goes 82 = .ok (.goto 4, 3) := by decide +kernel
theorem dX7_goes_85 : decode cX7_goes 85 = .ok (.iconst 0, 1) := by decide +kernel
theorem dX7_goes_86 : decode cX7_goes 86 = .ok (.ireturn, 1) := by decide +kernel
theorem dX7_goes_87 : decode cX7_goes 87 = .ok (.iload_n 2, 1) := by decide +kernel
theorem dX7_goes_88 : decode cX7_goes 88 = .ok (.ifCond .eq 20, 3) := by decide +kernel
theorem dX7_goes_91 : decode cX7_goes 91 = .ok (.aload_n 0, 1) := by decide +kernel
theorem dX7_goes_92 : decode cX7_goes 92 = .ok (.getfield 86, 3) := by decide +kernel
theorem dX7_goes_95 : decode cX7_goes 95 = .ok (.aload_n 0, 1) := by decide +kernel
theorem dX7_goes_96 : decode cX7_goes 96 = .ok (.getfield 13, 3) := by decide +kernel
theorem dX7_goes_99 : decode cX7_goes 99 = .ok (.iload_n 1, 1) := by decide +kernel
theorem dX7_goes_100 : decode cX7_goes 100 = .ok (.iaload, 1) := by decide +kernel
theorem dX7_goes_101 : decode cX7_goes 101 = .ok (.if_icmp .lt 7, 3) := by decide +kernel
theorem dX7_goes_104 : decode cX7_goes 104 = .ok (.iconst 1, 1) := by decide +kernel
theorem dX7_goes_105 : decode cX7_goes 105 = .ok (.goto 4, 3) := by decide +kernel
theorem dX7_goes_108 : decode cX7_goes 108 = .ok (.iconst 0, 1) := by decide +kernel
theorem dX7_goes_109 : decode cX7_goes 109 = .ok (.ireturn, 1) := by decide +kernel
theorem dX7_goes_110 : decode cX7_goes 110 = .ok (.iload_n 2, 1) := by decide +kernel
theorem dX7_goes_111 : decode cX7_goes 111 = .ok (.ireturn, 1) := by decide +kernel
theorem dX7_hitsOf_0 : decode cX7_hitsOf 0 = .ok (.aload_n 0, 1) := by decide +kernel
theorem dX7_hitsOf_1 : decode cX7_hitsOf 1 = .ok (.iconst 1, 1) := by decide +kernel
theorem dX7_hitsOf_2 : decode cX7_hitsOf 2 = .ok (.iload_n 1, 1) := by decide +kernel
theorem dX7_hitsOf_3 : decode cX7_hitsOf 3 = .ok (.invokevirtual 170, 3) := by decide +kernel
theorem dX7_hitsOf_6 : decode cX7_hitsOf 6 = .ok (.istore_n 3, 1) := by decide +kernel
theorem dX7_hitsOf_7 : decode cX7_hitsOf 7 = .ok (.aload_n 0, 1) := by decide +kernel
theorem dX7_hitsOf_8 : decode cX7_hitsOf 8 = .ok (.getfield 7, 3) := by decide +kernel
theorem dX7_hitsOf_11 : decode cX7_hitsOf 11 = .ok (.iload_n 2, 1) := by decide +kernel
theorem dX7_hitsOf_12 : decode cX7_hitsOf 12 = .ok (.iaload, 1) := by decide +kernel
theorem dX7_hitsOf_13 : decode cX7_hitsOf 13 = .ok (.iconst 1, 1) := by decide +kernel
theorem dX7_hitsOf_14 : decode cX7_hitsOf 14 = .ok (.if_icmp .ne 9, 3) := by decide +kernel
theorem dX7_hitsOf_17 : decode cX7_hitsOf 17 = .ok (.iconst 2, 1) := by decide +kernel
theorem dX7_hitsOf_18 : decode cX7_hitsOf 18 = .ok (.iload_n 3, 1) := by decide +kernel
theorem dX7_hitsOf_19 : decode cX7_hitsOf 19 = .ok (.imul, 1) := by decide +kernel
theorem dX7_hitsOf_20 : decode cX7_hitsOf 20 = .ok (.goto 4, 3) := by decide +kernel
theorem dX7_hitsOf_23 : decode cX7_hitsOf 23 = .ok (.iload_n 3, 1) := by decide +kernel
theorem dX7_hitsOf_24 : decode cX7_hitsOf 24 = .ok (.istore 4, 2) := by decide +kernel
theorem dX7_hitsOf_26 : decode cX7_hitsOf 26 = .ok (.aload_n 0, 1) := by decide +kernel
theorem dX7_hitsOf_27 : decode cX7_hitsOf 27 = .ok (.getfield 7, 3) := by decide +kernel
theorem dX7_hitsOf_30 : decode cX7_hitsOf 30 = .ok (.iload_n 1, 1) := by decide +kernel
theorem dX7_hitsOf_31 : decode cX7_hitsOf 31 = .ok (.iaload, 1) := by decide +kernel
theorem dX7_hitsOf_32 : decode cX7_hitsOf 32 = .ok (.tableswitch 85 1 4 #[32, 41, 44, 66], 32) := by decide +kernel
theorem dX7_hitsOf_64 : decode cX7_hitsOf 64 = .ok (.iload_n 3, 1) := by decide +kernel
theorem dX7_hitsOf_65 : decode cX7_hitsOf 65 = .ok (.aload_n 0, 1) := by decide +kernel
theorem dX7_hitsOf_66 : decode cX7_hitsOf 66 = .ok (.getfield 13, 3) := by decide +kernel
theorem dX7_hitsOf_69 : decode cX7_hitsOf 69 = .ok (.iload_n 1, 1) := by decide +kernel
theorem dX7_hitsOf_70 : decode cX7_hitsOf 70 = .ok (.iaload, 1) := by decide +kernel
theorem dX7_hitsOf_71 : decode cX7_hitsOf 71 = .ok (.iadd, 1) := by decide +kernel
theorem dX7_hitsOf_72 : decode cX7_hitsOf 72 = .ok (.ireturn, 1) := by decide +kernel
theorem dX7_hitsOf_73 : decode cX7_hitsOf 73 = .ok (.iload 4, 2) := by decide +kernel
theorem dX7_hitsOf_75 : decode cX7_hitsOf 75 = .ok (.ireturn, 1) := by decide +kernel
theorem dX7_hitsOf_76 : decode cX7_hitsOf 76 = .ok (.aload_n 0, 1) := by decide +kernel
theorem dX7_hitsOf_77 : decode cX7_hitsOf 77 = .ok (.getfield 86, 3) := by decide +kernel
theorem dX7_hitsOf_80 : decode cX7_hitsOf 80 = .ok (.iconst 2, 1) := by decide +kernel
theorem dX7_hitsOf_81 : decode cX7_hitsOf 81 = .ok (.irem, 1) := by decide +kernel
theorem dX7_hitsOf_82 : decode cX7_hitsOf 82 = .ok (.ifCond .ne 14, 3) := by decide +kernel
theorem dX7_hitsOf_85 : decode cX7_hitsOf 85 = .ok (.iload_n 3, 1) := by decide +kernel
theorem dX7_hitsOf_86 : decode cX7_hitsOf 86 = .ok (.aload_n 0, 1) := by decide +kernel
theorem dX7_hitsOf_87 : decode cX7_hitsOf 87 = .ok (.getfield 13, 3) := by decide +kernel
theorem dX7_hitsOf_90 : decode cX7_hitsOf 90 = .ok (.iload_n 1, 1) := by decide +kernel
theorem dX7_hitsOf_91 : decode cX7_hitsOf 91 = .ok (.iaload, 1) := by decide +kernel
theorem dX7_hitsOf_92 : decode cX7_hitsOf 92 = .ok (.iadd, 1) := by decide +kernel
theorem dX7_hitsOf_93 : decode cX7_hitsOf 93 = .ok (.goto 4, 3) := by decide +kernel
theorem dX7_hitsOf_96 : decode cX7_hitsOf 96 = .ok (.iconst 1, 1) := by decide +kernel
theorem dX7_hitsOf_97 : decode cX7_hitsOf 97 = .ok (.ireturn, 1) := by decide +kernel
theorem dX7_hitsOf_98 : decode cX7_hitsOf 98 = .ok (.aload_n 0, 1) := by decide +kernel
theorem dX7_hitsOf_99 : decode cX7_hitsOf 99 = .ok (.getfield 7, 3) := by decide +kernel
theorem dX7_hitsOf_102 : decode cX7_hitsOf 102 = .ok (.iload_n 2, 1) := by decide +kernel
theorem dX7_hitsOf_103 : decode cX7_hitsOf 103 = .ok (.iaload, 1) := by decide +kernel
theorem dX7_hitsOf_104 : decode cX7_hitsOf 104 = .ok (.iconst 5, 1) := by decide +kernel
theorem dX7_hitsOf_105 : decode cX7_hitsOf 105 = .ok (.if_icmp .ne 7, 3) := by decide +kernel
theorem dX7_hitsOf_108 : decode cX7_hitsOf 108 = .ok (.iconst 0, 1) := by decide +kernel
theorem dX7_hitsOf_109 : decode cX7_hitsOf 109 = .ok (.goto 7, 3) := by decide +kernel
theorem dX7_hitsOf_112 : decode cX7_hitsOf 112 = .ok (.iload 4, 2) := by decide +kernel
theorem dX7_hitsOf_114 : decode cX7_hitsOf 114 = .ok (.iconst 1, 1) := by decide +kernel
theorem dX7_hitsOf_115 : decode cX7_hitsOf 115 = .ok (.iadd, 1) := by decide +kernel
theorem dX7_hitsOf_116 : decode cX7_hitsOf 116 = .ok (.ireturn, 1) := by decide +kernel
theorem dX7_hitsOf_117 : decode cX7_hitsOf 117 = .ok (.iload_n 3, 1) := by decide +kernel
theorem dX7_hitsOf_118 : decode cX7_hitsOf 118 = .ok (.ireturn, 1) := by decide +kernel
theorem dX7_softOf_0 : decode cX7_softOf 0 = .ok (.aload_n 0, 1) := by decide +kernel
theorem dX7_softOf_1 : decode cX7_softOf 1 = .ok (.iconst 2, 1) := by decide +kernel
theorem dX7_softOf_2 : decode cX7_softOf 2 = .ok (.iload_n 1, 1) := by decide +kernel
theorem dX7_softOf_3 : decode cX7_softOf 3 = .ok (.invokevirtual 170, 3) := by decide +kernel
theorem dX7_softOf_6 : decode cX7_softOf 6 = .ok (.istore_n 2, 1) := by decide +kernel
theorem dX7_softOf_7 : decode cX7_softOf 7 = .ok (.aload_n 0, 1) := by decide +kernel
theorem dX7_softOf_8 : decode cX7_softOf 8 = .ok (.getfield 7, 3) := by decide +kernel
theorem dX7_softOf_11 : decode cX7_softOf 11 = .ok (.iload_n 1, 1) := by decide +kernel
theorem dX7_softOf_12 : decode cX7_softOf 12 = .ok (.iaload, 1) := by decide +kernel
theorem dX7_softOf_13 : decode cX7_softOf 13 = .ok (.tableswitch 64 1 5 #[35, 64, 35, 44, 53], 35) := by decide +kernel
theorem dX7_softOf_48 : decode cX7_softOf 48 = .ok (.iload_n 2, 1) := by decide +kernel
theorem dX7_softOf_49 : decode cX7_softOf 49 = .ok (.aload_n 0, 1) := by decide +kernel
theorem dX7_softOf_50 : decode cX7_softOf 50 = .ok (.getfield 13, 3) := by decide +kernel
theorem dX7_softOf_53 : decode cX7_softOf 53 = .ok (.iload_n 1, 1) := by decide +kernel
theorem dX7_softOf_54 : decode cX7_softOf 54 = .ok (.iaload, 1) := by decide +kernel
theorem dX7_softOf_55 : decode cX7_softOf 55 = .ok (.isub, 1) := by decide +kernel
theorem dX7_softOf_56 : decode cX7_softOf 56 = .ok (.ireturn, 1) := by decide +kernel
theorem dX7_softOf_57 : decode cX7_softOf 57 = .ok (.iload_n 2, 1) := by decide +kernel
theorem dX7_softOf_58 : decode cX7_softOf 58 = .ok (.aload_n 0, 1) := by decide +kernel
theorem dX7_softOf_59 : decode cX7_softOf 59 = .ok (.getfield 13, 3) := by decide +kernel
theorem dX7_softOf_62 : decode cX7_softOf 62 = .ok (.iload_n 1, 1) := by decide +kernel
theorem dX7_softOf_63 : decode cX7_softOf 63 = .ok (.iaload, 1) := by decide +kernel
theorem dX7_softOf_64 : decode cX7_softOf 64 = .ok (.iadd, 1) := by decide +kernel
theorem dX7_softOf_65 : decode cX7_softOf 65 = .ok (.ireturn, 1) := by decide +kernel
theorem dX7_softOf_66 : decode cX7_softOf 66 = .ok (.iconst 3, 1) := by decide +kernel
theorem dX7_softOf_67 : decode cX7_softOf 67 = .ok (.iload_n 2, 1) := by decide +kernel
theorem dX7_softOf_68 : decode cX7_softOf 68 = .ok (.imul, 1) := by decide +kernel
theorem dX7_softOf_69 : decode cX7_softOf 69 = .ok (.aload_n 0, 1) := by decide +kernel
theorem dX7_softOf_70 : decode cX7_softOf 70 = .ok (.getfield 13, 3) := by decide +kernel
theorem dX7_softOf_73 : decode cX7_softOf 73 = .ok (.iload_n 1, 1) := by decide +kernel
theorem dX7_softOf_74 : decode cX7_softOf 74 = .ok (.iaload, 1) := by decide +kernel
theorem dX7_softOf_75 : decode cX7_softOf 75 = .ok (.iadd, 1) := by decide +kernel
theorem dX7_softOf_76 : decode cX7_softOf 76 = .ok (.ireturn, 1) := by decide +kernel
theorem dX7_softOf_77 : decode cX7_softOf 77 = .ok (.iload_n 2, 1) := by decide +kernel
theorem dX7_softOf_78 : decode cX7_softOf 78 = .ok (.ireturn, 1) := by decide +kernel
theorem dX7_blowOf_0 : decode cX7_blowOf 0 = .ok (.aload_n 0, 1) := by decide +kernel
theorem dX7_blowOf_1 : decode cX7_blowOf 1 = .ok (.iload_n 1, 1) := by decide +kernel
theorem dX7_blowOf_2 : decode cX7_blowOf 2 = .ok (.iload_n 2, 1) := by decide +kernel
theorem dX7_blowOf_3 : decode cX7_blowOf 3 = .ok (.invokevirtual 173, 3) := by decide +kernel
theorem dX7_blowOf_6 : decode cX7_blowOf 6 = .ok (.aload_n 0, 1) := by decide +kernel
theorem dX7_blowOf_7 : decode cX7_blowOf 7 = .ok (.iload_n 2, 1) := by decide +kernel
theorem dX7_blowOf_8 : decode cX7_blowOf 8 = .ok (.invokevirtual 176, 3) := by decide +kernel
theorem dX7_blowOf_11 : decode cX7_blowOf 11 = .ok (.isub, 1) := by decide +kernel
theorem dX7_blowOf_12 : decode cX7_blowOf 12 = .ok (.iconst 0, 1) := by decide +kernel
theorem dX7_blowOf_13 : decode cX7_blowOf 13 = .ok (.bipush 99, 2) := by decide +kernel
theorem dX7_blowOf_15 : decode cX7_blowOf 15 = .ok (.invokestatic 167, 3) := by decide +kernel
theorem dX7_blowOf_18 : decode cX7_blowOf 18 = .ok (.ireturn, 1) := by decide +kernel
theorem dX7_farOf_0 : decode cX7_farOf 0 = .ok (.aload_n 0, 1) := by decide +kernel
theorem dX7_farOf_1 : decode cX7_farOf 1 = .ok (.getfield 16, 3) := by decide +kernel
theorem dX7_farOf_4 : decode cX7_farOf 4 = .ok (.iconst 4, 1) := by decide +kernel
theorem dX7_farOf_5 : decode cX7_farOf 5 = .ok (.iload_n 1, 1) := by decide +kernel
theorem dX7_farOf_6 : decode cX7_farOf 6 = .ok (.imul, 1) := by decide +kernel
theorem dX7_farOf_7 : decode cX7_farOf 7 = .ok (.iaload, 1) := by decide +kernel
theorem dX7_farOf_8 : decode cX7_farOf 8 = .ok (.bipush 8, 2) := by decide +kernel
theorem dX7_farOf_10 : decode cX7_farOf 10 = .ok (.irem, 1) := by decide +kernel
theorem dX7_farOf_11 : decode cX7_farOf 11 = .ok (.aload_n 0, 1) := by decide +kernel
theorem dX7_farOf_12 : decode cX7_farOf 12 = .ok (.getfield 16, 3) := by decide +kernel
theorem dX7_farOf_15 : decode cX7_farOf 15 = .ok (.iconst 4, 1) := by decide +kernel
theorem dX7_farOf_16 : decode cX7_farOf 16 = .ok (.iload_n 2, 1) := by decide +kernel
theorem dX7_farOf_17 : decode cX7_farOf 17 = .ok (.imul, 1) := by decide +kernel
theorem dX7_farOf_18 : decode cX7_farOf 18 = .ok (.iaload, 1) := by decide +kernel
theorem dX7_farOf_19 : decode cX7_farOf 19 = .ok (.bipush 8, 2) := by decide +kernel
theorem dX7_farOf_21 : decode cX7_farOf 21 = .ok (.irem, 1) := by decide +kernel
theorem dX7_farOf_22 : decode cX7_farOf 22 = .ok (.isub, 1) := by decide +kernel
theorem dX7_farOf_23 : decode cX7_farOf 23 = .ok (.istore_n 3, 1) := by decide +kernel
theorem dX7_farOf_24 : decode cX7_farOf 24 = .ok (.aload_n 0, 1) := by decide +kernel
theorem dX7_farOf_25 : decode cX7_farOf 25 = .ok (.getfield 16, 3) := by decide +kernel
theorem dX7_farOf_28 : decode cX7_farOf 28 = .ok (.iconst 4, 1) := by decide +kernel
theorem dX7_farOf_29 : decode cX7_farOf 29 = .ok (.iload_n 1, 1) := by decide +kernel
theorem dX7_farOf_30 : decode cX7_farOf 30 = .ok (.imul, 1) := by decide +kernel
theorem dX7_farOf_31 : decode cX7_farOf 31 = .ok (.iaload, 1) := by decide +kernel
theorem dX7_farOf_32 : decode cX7_farOf 32 = .ok (.bipush 8, 2) := by decide +kernel
theorem dX7_farOf_34 : decode cX7_farOf 34 = .ok (.idiv, 1) := by decide +kernel
theorem dX7_farOf_35 : decode cX7_farOf 35 = .ok (.aload_n 0, 1) := by decide +kernel
theorem dX7_farOf_36 : decode cX7_farOf 36 = .ok (.getfield 16, 3) := by decide +kernel
theorem dX7_farOf_39 : decode cX7_farOf 39 = .ok (.iconst 4, 1) := by decide +kernel
theorem dX7_farOf_40 : decode cX7_farOf 40 = .ok (.iload_n 2, 1) := by decide +kernel
theorem dX7_farOf_41 : decode cX7_farOf 41 = .ok (.imul, 1) := by decide +kernel
theorem dX7_farOf_42 : decode cX7_farOf 42 = .ok (.iaload, 1) := by decide +kernel
theorem dX7_farOf_43 : decode cX7_farOf 43 = .ok (.bipush 8, 2) := by decide +kernel
theorem dX7_farOf_45 : decode cX7_farOf 45 = .ok (.idiv, 1) := by decide +kernel
theorem dX7_farOf_46 : decode cX7_farOf 46 = .ok (.isub, 1) := by decide +kernel
theorem dX7_farOf_47 : decode cX7_farOf 47 = .ok (.istore 4, 2) := by decide +kernel
theorem dX7_farOf_49 : decode cX7_farOf 49 = .ok (.iload_n 3, 1) := by decide +kernel
theorem dX7_farOf_50 : decode cX7_farOf 50 = .ok (.ifCond .ge 8, 3) := by decide +kernel
theorem dX7_farOf_53 : decode cX7_farOf 53 = .ok (.iload_n 3, 1) := by decide +kernel
theorem dX7_farOf_54 : decode cX7_farOf 54 = .ok (.ineg, 1) := by decide +kernel
theorem dX7_farOf_55 : decode cX7_farOf 55 = .ok (.goto 4, 3) := by decide +kernel
theorem dX7_farOf_58 : decode cX7_farOf 58 = .ok (.iload_n 3, 1) := by decide +kernel
theorem dX7_farOf_59 : decode cX7_farOf 59 = .ok (.iload 4, 2) := by decide +kernel
theorem dX7_farOf_61 : decode cX7_farOf 61 = .ok (.ifCond .ge 9, 3) := by decide +kernel
theorem dX7_farOf_64 : decode cX7_farOf 64 = .ok (.iload 4, 2) := by decide +kernel
theorem dX7_farOf_66 : decode cX7_farOf 66 = .ok (.ineg, 1) := by decide +kernel
theorem dX7_farOf_67 : decode cX7_farOf 67 = .ok (.goto 5, 3) := by decide +kernel
theorem dX7_farOf_70 : decode cX7_farOf 70 = .ok (.iload 4, 2) := by decide +kernel
theorem dX7_farOf_72 : decode cX7_farOf 72 = .ok (.iadd, 1) := by decide +kernel
theorem dX7_farOf_73 : decode cX7_farOf 73 = .ok (.ireturn, 1) := by decide +kernel
theorem dX7_nearestOf_0 : decode cX7_nearestOf 0 = .ok (.iconst (-1), 1) := by decide +kernel
theorem dX7_nearestOf_1 : decode cX7_nearestOf 1 = .ok (.istore_n 2, 1) := by decide +kernel
theorem dX7_nearestOf_2 : decode cX7_nearestOf 2 = .ok (.iconst 0, 1) := by decide +kernel
theorem dX7_nearestOf_3 : decode cX7_nearestOf 3 = .ok (.istore_n 3, 1) := by decide +kernel
theorem dX7_nearestOf_4 : decode cX7_nearestOf 4 = .ok (.iconst 0, 1) := by decide +kernel
theorem dX7_nearestOf_5 : decode cX7_nearestOf 5 = .ok (.istore 4, 2) := by decide +kernel
theorem dX7_nearestOf_7 : decode cX7_nearestOf 7 = .ok (.iload 4, 2) := by decide +kernel
theorem dX7_nearestOf_9 : decode cX7_nearestOf 9 = .ok (.aload_n 0, 1) := by decide +kernel
theorem dX7_nearestOf_10 : decode cX7_nearestOf 10 = .ok (.getfield 72, 3) := by decide +kernel
theorem dX7_nearestOf_13 : decode cX7_nearestOf 13 = .ok (.if_icmp .ge 75, 3) := by decide +kernel
theorem dX7_nearestOf_16 : decode cX7_nearestOf 16 = .ok (.iload 4, 2) := by decide +kernel
theorem dX7_nearestOf_18 : decode cX7_nearestOf 18 = .ok (.iload_n 1, 1) := by decide +kernel
theorem dX7_nearestOf_19 : decode cX7_nearestOf 19 = .ok (.if_icmp .eq 63, 3) := by decide +kernel
theorem dX7_nearestOf_22 : decode cX7_nearestOf 22 = .ok (.aload_n 0, 1) := by decide +kernel
theorem dX7_nearestOf_23 : decode cX7_nearestOf 23 = .ok (.iload 4, 2) := by decide +kernel
theorem dX7_nearestOf_25 : decode cX7_nearestOf 25 = .ok (.invokevirtual 83, 3) := by decide +kernel
theorem dX7_nearestOf_28 : decode cX7_nearestOf 28 = .ok (.ifCond .eq 54, 3) := by decide +kernel
theorem dX7_nearestOf_31 : decode cX7_nearestOf 31 = .ok (.aload_n 0, 1) := by decide +kernel
theorem dX7_nearestOf_32 : decode cX7_nearestOf 32 = .ok (.iload_n 1, 1) := by decide +kernel
theorem dX7_nearestOf_33 : decode cX7_nearestOf 33 = .ok (.iload 4, 2) := by decide +kernel
theorem dX7_nearestOf_35 : decode cX7_nearestOf 35 = .ok (.invokevirtual 179, 3) := by decide +kernel
