theorem dX7_init_0 : decode cX7_init 0 = .ok (.aload_n 0, 1) := by decide +kernel
theorem dX7_init_1 : decode cX7_init 1 = .ok (.invokespecial 1, 3) := by decide +kernel
theorem dX7_init_4 : decode cX7_init 4 = .ok (.aload_n 0, 1) := by decide +kernel
theorem dX7_init_5 : decode cX7_init 5 = .ok (.bipush 6, 2) := by decide +kernel
theorem dX7_init_7 : decode cX7_init 7 = .ok (.newarray .int, 2) := by decide +kernel
theorem dX7_init_9 : decode cX7_init 9 = .ok (.putfield 7, 3) := by decide +kernel
theorem dX7_init_12 : decode cX7_init 12 = .ok (.aload_n 0, 1) := by decide +kernel
theorem dX7_init_13 : decode cX7_init 13 = .ok (.bipush 6, 2) := by decide +kernel
theorem dX7_init_15 : decode cX7_init 15 = .ok (.newarray .int, 2) := by decide +kernel
theorem dX7_init_17 : decode cX7_init 17 = .ok (.putfield 13, 3) := by decide +kernel
theorem dX7_init_20 : decode cX7_init 20 = .ok (.aload_n 0, 1) := by decide +kernel
theorem dX7_init_21 : decode cX7_init 21 = .ok (.bipush 12, 2) := by decide +kernel
theorem dX7_init_23 : decode cX7_init 23 = .ok (.newarray .int, 2) := by decide +kernel
theorem dX7_init_25 : decode cX7_init 25 = .ok (.putfield 16, 3) := by decide +kernel
theorem dX7_init_28 : decode cX7_init 28 = .ok (.aload_n 0, 1) := by decide +kernel
theorem dX7_init_29 : decode cX7_init 29 = .ok (.bipush 90, 2) := by decide +kernel
theorem dX7_init_31 : decode cX7_init 31 = .ok (.putfield 19, 3) := by decide +kernel
theorem dX7_init_34 : decode cX7_init 34 = .ok (.aload_n 0, 1) := by decide +kernel
theorem dX7_init_35 : decode cX7_init 35 = .ok (.sipush 160, 3) := by decide +kernel
theorem dX7_init_38 : decode cX7_init 38 = .ok (.newarray .int, 2) := by decide +kernel
theorem dX7_init_40 : decode cX7_init 40 = .ok (.putfield 23, 3) := by decide +kernel
theorem dX7_init_43 : decode cX7_init 43 = .ok (.aload_n 0, 1) := by decide +kernel
theorem dX7_init_44 : decode cX7_init 44 = .ok (.sipush 1200, 3) := by decide +kernel
theorem dX7_init_47 : decode cX7_init 47 = .ok (.newarray .int, 2) := by decide +kernel
theorem dX7_init_49 : decode cX7_init 49 = .ok (.putfield 26, 3) := by decide +kernel
theorem dX7_init_52 : decode cX7_init 52 = .ok (.aload_n 0, 1) := by decide +kernel
theorem dX7_init_53 : decode cX7_init 53 = .ok (.bipush 24, 2) := by decide +kernel
theorem dX7_init_55 : decode cX7_init 55 = .ok (.newarray .int, 2) := by decide +kernel
theorem dX7_init_57 : decode cX7_init 57 = .ok (.putfield 29, 3) := by decide +kernel
theorem dX7_init_60 : decode cX7_init 60 = .ok (.aload_n 0, 1) := by decide +kernel
theorem dX7_init_61 : decode cX7_init 61 = .ok (.bipush 12, 2) := by decide +kernel
theorem dX7_init_63 : decode cX7_init 63 = .ok (.newarray .int, 2) := by decide +kernel
theorem dX7_init_65 : decode cX7_init 65 = .ok (.putfield 32, 3) := by decide +kernel
theorem dX7_init_68 : decode cX7_init 68 = .ok (.aload_n 0, 1) := by decide +kernel
theorem dX7_init_69 : decode cX7_init 69 = .ok (.iconst 4, 1) := by decide +kernel
theorem dX7_init_70 : decode cX7_init 70 = .ok (.newarray .int, 2) := by decide +kernel
theorem dX7_init_72 : decode cX7_init 72 = .ok (.putfield 35, 3) := by decide +kernel
theorem dX7_init_75 : decode cX7_init 75 = .ok (.aload_n 0, 1) := by decide +kernel
theorem dX7_init_76 : decode cX7_init 76 = .ok (.iconst 4, 1) := by decide +kernel
theorem dX7_init_77 : decode cX7_init 77 = .ok (.newarray .int, 2) := by decide +kernel
theorem dX7_init_79 : decode cX7_init 79 = .ok (.dup, 1) := by decide +kernel
theorem dX7_init_80 : decode cX7_init 80 = .ok (.iconst 0, 1) := by decide +kernel
theorem dX7_init_81 : decode cX7_init 81 = .ok (.iconst (-1), 1) := by decide +kernel
theorem dX7_init_82 : decode cX7_init 82 = .ok (.iastore, 1) := by decide +kernel
theorem dX7_init_83 : decode cX7_init 83 = .ok (.dup, 1) := by decide +kernel
theorem dX7_init_84 : decode cX7_init 84 = .ok (.iconst 1, 1) := by decide +kernel
theorem dX7_init_85 : decode cX7_init 85 = .ok (.iconst (-1), 1) := by decide +kernel
theorem dX7_init_86 : decode cX7_init 86 = .ok (.iastore, 1) := by decide +kernel
theorem dX7_init_87 : decode cX7_init 87 = .ok (.dup, 1) := by decide +kernel
theorem dX7_init_88 : decode cX7_init 88 = .ok (.iconst 2, 1) := by decide +kernel
theorem dX7_init_89 : decode cX7_init 89 = .ok (.iconst (-1), 1) := by decide +kernel
theorem dX7_init_90 : decode cX7_init 90 = .ok (.iastore, 1) := by decide +kernel
theorem dX7_init_91 : decode cX7_init 91 = .ok (.dup, 1) := by decide +kernel
theorem dX7_init_92 : decode cX7_init 92 = .ok (.iconst 3, 1) := by decide +kernel
theorem dX7_init_93 : decode cX7_init 93 = .ok (.iconst (-1), 1) := by decide +kernel
theorem dX7_init_94 : decode cX7_init 94 = .ok (.iastore, 1) := by decide +kernel
theorem dX7_init_95 : decode cX7_init 95 = .ok (.putfield 38, 3) := by decide +kernel
theorem dX7_init_98 : decode cX7_init 98 = .ok (.aload_n 0, 1) := by decide +kernel
theorem dX7_init_99 : decode cX7_init 99 = .ok (.iconst 4, 1) := by decide +kernel
theorem dX7_init_100 : decode cX7_init 100 = .ok (.newarray .int, 2) := by decide +kernel
theorem dX7_init_102 : decode cX7_init 102 = .ok (.putfield 41, 3) := by decide +kernel
theorem dX7_init_105 : decode cX7_init 105 = .ok (.aload_n 0, 1) := by decide +kernel
theorem dX7_init_106 : decode cX7_init 106 = .ok (.sipush 160, 3) := by decide +kernel
theorem dX7_init_109 : decode cX7_init 109 = .ok (.newarray .int, 2) := by decide +kernel
theorem dX7_init_111 : decode cX7_init 111 = .ok (.putfield 44, 3) := by decide +kernel
theorem dX7_init_114 : decode cX7_init 114 = .ok (.aload_n 0, 1) := by decide +kernel
theorem dX7_init_115 : decode cX7_init 115 = .ok (.bipush 30, 2) := by decide +kernel
theorem dX7_init_117 : decode cX7_init 117 = .ok (.newarray .int, 2) := by decide +kernel
theorem dX7_init_119 : decode cX7_init 119 = .ok (.dup, 1) := by decide +kernel
theorem dX7_init_120 : decode cX7_init 120 = .ok (.iconst 0, 1) := by decide +kernel
theorem dX7_init_121 : decode cX7_init 121 = .ok (.bipush 99, 2) := by decide +kernel
theorem dX7_init_123 : decode cX7_init 123 = .ok (.iastore, 1) := by decide +kernel
theorem dX7_init_124 : decode cX7_init 124 = .ok (.dup, 1) := by decide +kernel
theorem dX7_init_125 : decode cX7_init 125 = .ok (.iconst 1, 1) := by decide +kernel
theorem dX7_init_126 : decode cX7_init 126 = .ok (.bipush 111, 2) := by decide +kernel
theorem dX7_init_128 : decode cX7_init 128 = .ok (.iastore, 1) := by decide +kernel
theorem dX7_init_129 : decode cX7_init 129 = .ok (.dup, 1) := by decide +kernel
theorem dX7_init_130 : decode cX7_init 130 = .ok (.iconst 2, 1) := by decide +kernel
theorem dX7_init_131 : decode cX7_init 131 = .ok (.bipush 111, 2) := by decide +kernel
theorem dX7_init_133 : decode cX7_init 133 = .ok (.iastore, 1) := by decide +kernel
theorem dX7_init_134 : decode cX7_init 134 = .ok (.dup, 1) := by decide +kernel
theorem dX7_init_135 : decode cX7_init 135 = .ok (.iconst 3, 1) := by decide +kernel
theorem dX7_init_136 : decode cX7_init 136 = .ok (.bipush 108, 2) := by decide +kernel
theorem dX7_init_138 : decode cX7_init 138 = .ok (.iastore, 1) := by decide +kernel
theorem dX7_init_139 : decode cX7_init 139 = .ok (.dup, 1) := by decide +kernel
theorem dX7_init_140 : decode cX7_init 140 = .ok (.iconst 4, 1) := by decide +kernel
theorem dX7_init_141 : decode cX7_init 141 = .ok (.bipush 115, 2) := by decide +kernel
theorem dX7_init_143 : decode cX7_init 143 = .ok (.iastore, 1) := by decide +kernel
theorem dX7_init_144 : decode cX7_init 144 = .ok (.dup, 1) := by decide +kernel
theorem dX7_init_145 : decode cX7_init 145 = .ok (.iconst 5, 1) := by decide +kernel
theorem dX7_init_146 : decode cX7_init 146 = .ok (.bipush 32, 2) := by decide +kernel
theorem dX7_init_148 : decode cX7_init 148 = .ok (.iastore, 1) := by decide +kernel
theorem dX7_init_149 : decode cX7_init 149 = .ok (.dup, 1) := by decide +kernel
theorem dX7_init_150 : decode cX7_init 150 = .ok (.bipush 6, 2) := by decide +kernel
theorem dX7_init_152 : decode cX7_init 152 = .ok (.bipush 50, 2) := by decide +kernel
theorem dX7_init_154 : decode cX7_init 154 = .ok (.iastore, 1) := by decide +kernel
theorem dX7_init_155 : decode cX7_init 155 = .ok (.dup, 1) := by decide +kernel
theorem dX7_init_156 : decode cX7_init 156 = .ok (.bipush 7, 2) := by decide +kernel
theorem dX7_init_158 : decode cX7_init 158 = .ok (.bipush 32, 2) := by decide +kernel
theorem dX7_init_160 : decode cX7_init 160 = .ok (.iastore, 1) := by decide +kernel
theorem dX7_init_161 : decode cX7_init 161 = .ok (.dup, 1) := by decide +kernel
theorem dX7_init_162 : decode cX7_init 162 = .ok (.bipush 8, 2) := by decide +kernel
theorem dX7_init_164 : decode cX7_init 164 = .ok (.bipush 59, 2) := by decide +kernel
theorem dX7_init_166 : decode cX7_init 166 = .ok (.iastore, 1) := by decide +kernel
theorem dX7_init_167 : decode cX7_init 167 = .ok (.dup, 1) := by decide +kernel
theorem dX7_init_168 : decode cX7_init 168 = .ok (.bipush 9, 2) := by decide +kernel
theorem dX7_init_170 : decode cX7_init 170 = .ok (.bipush 32, 2) := by decide +kernel
theorem dX7_init_172 : decode cX7_init 172 = .ok (.iastore, 1) := by decide +kernel
theorem dX7_init_173 : decode cX7_init 173 = .ok (.dup, 1) := by decide +kernel
theorem dX7_init_174 : decode cX7_init 174 = .ok (.bipush 10, 2) := by decide +kernel
theorem dX7_init_176 : decode cX7_init 176 = .ok (.bipush 119, 2) := by decide +kernel
theorem dX7_init_178 : decode cX7_init 178 = .ok (.iastore, 1) := by decide +kernel
theorem dX7_init_179 : decode cX7_init 179 = .ok (.dup, 1) := by decide +kernel
theorem dX7_init_180 : decode cX7_init 180 = .ok (.bipush 11, 2) := by decide +kernel
theorem dX7_init_182 : decode cX7_init 182 = .ok (.bipush 97, 2) := by decide +kernel
theorem dX7_init_184 : decode cX7_init 184 = .ok (.iastore, 1) := by decide +kernel
theorem dX7_init_185 : decode cX7_init 185 = .ok (.dup, 1) := by decide +kernel
theorem dX7_init_186 : decode cX7_init 186 = .ok (.bipush 12, 2) := by decide +kernel
theorem dX7_init_188 : decode cX7_init 188 = .ok (.bipush 105, 2) := by decide +kernel
theorem dX7_init_190 : decode cX7_init 190 = .ok (.iastore, 1) := by decide +kernel
theorem dX7_init_191 : decode cX7_init 191 = .ok (.dup, 1) := by decide +kernel
theorem dX7_init_192 : decode cX7_init 192 = .ok (.bipush 13, 2) := by decide +kernel
theorem dX7_init_194 : decode cX7_init 194 = .ok (.bipush 116, 2) := by decide +kernel
theorem dX7_init_196 : decode cX7_init 196 = .ok (.iastore, 1) := by decide +kernel
theorem dX7_init_197 : decode cX7_init 197 = .ok (.dup, 1) := by decide +kernel
theorem dX7_init_198 : decode cX7_init 198 = .ok (.bipush 14, 2) := by decide +kernel
theorem dX7_init_200 : decode cX7_init 200 = .ok (.bipush 115, 2) := by decide +kernel
theorem dX7_init_202 : decode cX7_init 202 = .ok (.iastore, 1) := by decide +kernel
theorem dX7_init_203 : decode cX7_init 203 = .ok (.dup, 1) := by decide +kernel
theorem dX7_init_204 : decode cX7_init 204 = .ok (.bipush 15, 2) := by decide +kernel
theorem dX7_init_206 : decode cX7_init 206 = .ok (.bipush 32, 2) := by decide +kernel
theorem dX7_init_208 : decode cX7_init 208 = .ok (.iastore, 1) := by decide +kernel
theorem dX7_init_209 : decode cX7_init 209 = .ok (.dup, 1) := by decide +kernel
theorem dX7_init_210 : decode cX7_init 210 = .ok (.bipush 16, 2) := by decide +kernel
theorem dX7_init_212 : decode cX7_init 212 = .ok (.bipush 51, 2) := by decide +kernel
theorem dX7_init_214 : decode cX7_init 214 = .ok (.iastore, 1) := by decide +kernel
theorem dX7_init_215 : decode cX7_init 215 = .ok (.dup, 1) := by decide +kernel
theorem dX7_init_216 : decode cX7_init 216 = .ok (.bipush 17, 2) := by decide +kernel
theorem dX7_init_218 : decode cX7_init 218 = .ok (.bipush 32, 2) := by decide +kernel
theorem dX7_init_220 : decode cX7_init 220 = .ok (.iastore, 1) := by decide +kernel
theorem dX7_init_221 : decode cX7_init 221 = .ok (.dup, 1) := by decide +kernel
theorem dX7_init_222 : decode cX7_init 222 = .ok (.bipush 18, 2) := by decide +kernel
theorem dX7_init_224 : decode cX7_init 224 = .ok (.bipush 59, 2) := by decide +kernel
theorem dX7_init_226 : decode cX7_init 226 = .ok (.iastore, 1) := by decide +kernel
theorem dX7_init_227 : decode cX7_init 227 = .ok (.dup, 1) := by decide +kernel
theorem dX7_init_228 : decode cX7_init 228 = .ok (.bipush 19, 2) := by decide +kernel
theorem dX7_init_230 : decode cX7_init 230 = .ok (.bipush 32, 2) := by decide +kernel
theorem dX7_init_232 : decode cX7_init 232 = .ok (.iastore, 1) := by decide +kernel
theorem dX7_init_233 : decode cX7_init 233 = .ok (.dup, 1) := by decide +kernel
theorem dX7_init_234 : decode cX7_init 234 = .ok (.bipush 20, 2) := by decide +kernel
theorem dX7_init_236 : decode cX7_init 236 = .ok (.bipush 108, 2) := by decide +kernel
theorem dX7_init_238 : decode cX7_init 238 = .ok (.iastore, 1) := by decide +kernel
theorem dX7_init_239 : decode cX7_init 239 = .ok (.dup, 1) := by decide +kernel
theorem dX7_init_240 : decode cX7_init 240 = .ok (.bipush 21, 2) := by decide +kernel
theorem dX7_init_242 : decode cX7_init 242 = .ok (.bipush 105, 2) := by decide +kernel
theorem dX7_init_244 : decode cX7_init 244 = .ok (.iastore, 1) := by decide +kernel
theorem dX7_init_245 : decode cX7_init 245 = .ok (.dup, 1) := by decide +kernel
theorem dX7_init_246 : decode cX7_init 246 = .ok (.bipush 22, 2) := by decide +kernel
theorem dX7_init_248 : decode cX7_init 248 = .ok (.bipush 107, 2) := by decide +kernel
theorem dX7_init_250 : decode cX7_init 250 = .ok (.iastore, 1) := by decide +kernel
theorem dX7_init_251 : decode cX7_init 251 = .ok (.dup, 1) := by decide +kernel
theorem dX7_init_252 : decode cX7_init 252 = .ok (.bipush 23, 2) := by decide +kernel
theorem dX7_init_254 : decode cX7_init 254 = .ok (.bipush 101, 2) := by decide +kernel
theorem dX7_init_256 : decode cX7_init 256 = .ok (.iastore, 1) := by decide +kernel
theorem dX7_init_257 : decode cX7_init 257 = .ok (.dup, 1) := by decide +kernel
theorem dX7_init_258 : decode cX7_init 258 = .ok (.bipush 24, 2) := by decide +kernel
theorem dX7_init_260 : decode cX7_init 260 = .ok (.bipush 115, 2) := by decide +kernel
theorem dX7_init_262 : decode cX7_init 262 = .ok (.iastore, 1) := by decide +kernel
theorem dX7_init_263 : decode cX7_init 263 = .ok (.dup, 1) := by decide +kernel
theorem dX7_init_264 : decode cX7_init 264 = .ok (.bipush 25, 2) := by decide +kernel
theorem dX7_init_266 : decode cX7_init 266 = .ok (.bipush 32, 2) := by decide +kernel
theorem dX7_init_268 : decode cX7_init 268 = .ok (.iastore, 1) := by decide +kernel
theorem dX7_init_269 : decode cX7_init 269 = .ok (.dup, 1) := by decide +kernel
theorem dX7_init_270 : decode cX7_init 270 = .ok (.bipush 26, 2) := by decide +kernel
theorem dX7_init_272 : decode cX7_init 272 = .ok (.bipush 53, 2) := by decide +kernel
theorem dX7_init_274 : decode cX7_init 274 = .ok (.iastore, 1) := by decide +kernel
theorem dX7_init_275 : decode cX7_init 275 = .ok (.dup, 1) := by decide +kernel
theorem dX7_init_276 : decode cX7_init 276 = .ok (.bipush 27, 2) := by decide +kernel
theorem dX7_init_278 : decode cX7_init 278 = .ok (.bipush 48, 2) := by decide +kernel
theorem dX7_init_280 : decode cX7_init 280 = .ok (.iastore, 1) := by decide +kernel
theorem dX7_init_281 : decode cX7_init 281 = .ok (.dup, 1) := by decide +kernel
theorem dX7_init_282 : decode cX7_init 282 = .ok (.bipush 28, 2) := by decide +kernel
theorem dX7_init_284 : decode cX7_init 284 = .ok (.bipush 32, 2) := by decide +kernel
theorem dX7_init_286 : decode cX7_init 286 = .ok (.iastore, 1) := by decide +kernel
theorem dX7_init_287 : decode cX7_init 287 = .ok (.dup, 1) := by decide +kernel
theorem dX7_init_288 : decode cX7_init 288 = .ok (.bipush 29, 2) := by decide +kernel
theorem dX7_init_290 : decode cX7_init 290 = .ok (.bipush 59, 2) := by decide +kernel
theorem dX7_init_292 : decode cX7_init 292 = .ok (.iastore, 1) := by decide +kernel
theorem dX7_init_293 : decode cX7_init 293 = .ok (.putfield 47, 3) := by decide +kernel
theorem dX7_init_296 : decode cX7_init 296 = .ok (.aload_n 0, 1) := by decide +kernel
theorem dX7_init_297 : decode cX7_init 297 = .ok (.bipush 96, 2) := by decide +kernel
theorem dX7_init_299 : decode cX7_init 299 = .ok (.newarray .int, 2) := by decide +kernel
theorem dX7_init_301 : decode cX7_init 301 = .ok (.dup, 1) := by decide +kernel
theorem dX7_init_302 : decode cX7_init 302 = .ok (.iconst 0, 1) := by decide +kernel
theorem dX7_init_303 : decode cX7_init 303 = .ok (.bipush 99, 2) := by decide +kernel
theorem dX7_init_305 : decode cX7_init 305 = .ok (.iastore, 1) := by decide +kernel
theorem dX7_init_306 : decode cX7_init 306 = .ok (.dup, 1) := by decide +kernel
theorem dX7_init_307 : decode cX7_init 307 = .ok (.iconst 1, 1) := by decide +kernel
theorem dX7_init_308 : decode cX7_init 308 = .ok (.bipush 111, 2) := by decide +kernel
theorem dX7_init_310 : decode cX7_init 310 = .ok (.iastore, 1) := by decide +kernel
theorem dX7_init_311 : decode cX7_init 311 = .ok (.dup, 1) := by decide +kernel
theorem dX7_init_312 : decode cX7_init 312 = .ok (.iconst 2, 1) := by decide +kernel
theorem dX7_init_313 : decode cX7_init 313 = .ok (.bipush 111, 2) := by decide +kernel
theorem dX7_init_315 : decode cX7_init 315 = .ok (.iastore, 1) := by decide +kernel
theorem dX7_init_316 : decode cX7_init 316 = .ok (.dup, 1) := by decide +kernel
theorem dX7_init_317 : decode cX7_init 317 = .ok (.iconst 3, 1) := by decide +kernel
theorem dX7_init_318 : decode cX7_init 318 = .ok (.bipush 108, 2) := by decide +kernel
theorem dX7_init_320 : decode cX7_init 320 = .ok (.iastore, 1) := by decide +kernel
theorem dX7_init_321 : decode cX7_init 321 = .ok (.dup, 1) := by decide +kernel
theorem dX7_init_322 : decode cX7_init 322 = .ok (.iconst 4, 1) := by decide +kernel
theorem dX7_init_323 : decode cX7_init 323 = .ok (.bipush 115, 2) := by decide +kernel
theorem dX7_init_325 : decode cX7_init 325 = .ok (.iastore, 1) := by decide +kernel
theorem dX7_init_326 : decode cX7_init 326 = .ok (.dup, 1) := by decide +kernel
theorem dX7_init_327 : decode cX7_init 327 = .ok (.iconst 5, 1) := by decide +kernel
theorem dX7_init_328 : decode cX7_init 328 = .ok (.bipush 32, 2) := by decide +kernel
theorem dX7_init_330 : decode cX7_init 330 = .ok (.iastore, 1) := by decide +kernel
theorem dX7_init_331 : decode cX7_init 331 = .ok (.dup, 1) := by decide +kernel
theorem dX7_init_332 : decode cX7_init 332 = .ok (.bipush 6, 2) := by decide +kernel
theorem dX7_init_334 : decode cX7_init 334 = .ok (.bipush 32, 2) := by decide +kernel
theorem dX7_init_336 : decode cX7_init 336 = .ok (.iastore, 1) := by decide +kernel
theorem dX7_init_337 : decode cX7_init 337 = .ok (.dup, 1) := by decide +kernel
theorem dX7_init_338 : decode cX7_init 338 = .ok (.bipush 7, 2) := by decide +kernel
theorem dX7_init_340 : decode cX7_init 340 = .ok (.bipush 32, 2) := by decide +kernel
theorem dX7_init_342 : decode cX7_init 342 = .ok (.iastore, 1) := by decide +kernel
theorem dX7_init_343 : decode cX7_init 343 = .ok (.dup, 1) := by decide +kernel
theorem dX7_init_344 : decode cX7_init 344 = .ok (.bipush 8, 2) := by decide +kernel
theorem dX7_init_346 : decode cX7_init 346 = .ok (.bipush 119, 2) := by decide +kernel
theorem dX7_init_348 : decode cX7_init 348 = .ok (.iastore, 1) := by decide +kernel
theorem dX7_init_349 : decode cX7_init 349 = .ok (.dup, 1) := by decide +kernel
theorem dX7_init_350 : decode cX7_init 350 = .ok (.bipush 9, 2) := by decide +kernel
theorem dX7_init_352 : decode cX7_init 352 = .ok (.bipush 97, 2) := by decide +kernel
theorem dX7_init_354 : decode cX7_init 354 = .ok (.iastore, 1) := by decide +kernel
theorem dX7_init_355 : decode cX7_init 355 = .ok (.dup, 1) := by decide +kernel
theorem dX7_init_356 : decode cX7_init 356 = .ok (.bipush 10, 2) := by decide +kernel
theorem dX7_init_358 : decode cX7_init 358 = .ok (.bipush 105, 2) := by decide +kernel
theorem dX7_init_360 : decode cX7_init 360 = .ok (.iastore, 1) := by decide +kernel
theorem dX7_init_361 : decode cX7_init 361 = .ok (.dup, 1) := by decide +kernel
theorem dX7_init_362 : decode cX7_init 362 = .ok (.bipush 11, 2) := by decide +kernel
theorem dX7_init_364 : decode cX7_init 364 = .ok (.bipush 116, 2) := by decide +kernel
theorem dX7_init_366 : decode cX7_init 366 = .ok (.iastore, 1) := by decide +kernel
theorem dX7_init_367 : decode cX7_init 367 = .ok (.dup, 1) := by decide +kernel
theorem dX7_init_368 : decode cX7_init 368 = .ok (.bipush 12, 2) := by decide +kernel
theorem dX7_init_370 : decode cX7_init 370 = .ok (.bipush 115, 2) := by decide +kernel
theorem dX7_init_372 : decode cX7_init 372 = .ok (.iastore, 1) := by decide +kernel
theorem dX7_init_373 : decode cX7_init 373 = .ok (.dup, 1) := by decide +kernel
theorem dX7_init_374 : decode cX7_init 374 = .ok (.bipush 13, 2) := by decide +kernel
theorem dX7_init_376 : decode cX7_init 376 = .ok (.bipush 32, 2) := by decide +kernel
theorem dX7_init_378 : decode cX7_init 378 = .ok (.iastore, 1) := by decide +kernel
theorem dX7_init_379 : decode cX7_init 379 = .ok (.dup, 1) := by decide +kernel
theorem dX7_init_380 : decode cX7_init 380 = .ok (.bipush 14, 2) := by decide +kernel
theorem dX7_init_382 : decode cX7_init 382 = .ok (.bipush 32, 2) := by decide +kernel
theorem dX7_init_384 : decode cX7_init 384 = .ok (.iastore, 1) := by decide +kernel
theorem dX7_init_385 : decode cX7_init 385 = .ok (.dup, 1) := by decide +kernel
theorem dX7_init_386 : decode cX7_init 386 = .ok (.bipush 15, 2) := by decide +kernel
theorem dX7_init_388 : decode cX7_init 388 = .ok (.bipush 32, 2) := by decide +kernel
theorem dX7_init_390 : decode cX7_init 390 = .ok (.iastore, 1) := by decide +kernel
theorem dX7_init_391 : decode cX7_init 391 = .ok (.dup, 1) := by decide +kernel
theorem dX7_init_392 : decode cX7_init 392 = .ok (.bipush 16, 2) := by decide +kernel
theorem dX7_init_394 : decode cX7_init 394 = .ok (.bipush 108, 2) := by decide +kernel
theorem dX7_init_396 : decode cX7_init 396 = .ok (.iastore, 1) := by decide +kernel
theorem dX7_init_397 : decode cX7_init 397 = .ok (.dup, 1) := by decide +kernel
theorem dX7_init_398 : decode cX7_init 398 = .ok (.bipush 17, 2) := by decide +kernel
theorem dX7_init_400 : decode cX7_init 400 = .ok (.bipush 105, 2) := by decide +kernel
theorem dX7_init_402 : decode cX7_init 402 = .ok (.iastore, 1) := by decide +kernel
theorem dX7_init_403 : decode cX7_init 403 = .ok (.dup, 1) := by decide +kernel
theorem dX7_init_404 : decode cX7_init 404 = .ok (.bipush 18, 2) := by decide +kernel
theorem dX7_init_406 : decode cX7_init 406 = .ok (.bipush 107, 2) := by decide +kernel
theorem dX7_init_408 : decode cX7_init 408 = .ok (.iastore, 1) := by decide +kernel
theorem dX7_init_409 : decode cX7_init 409 = .ok (.dup, 1) := by decide +kernel
theorem dX7_init_410 : decode cX7_init 410 = .ok (.bipush 19, 2) := by decide +kernel
theorem dX7_init_412 : decode cX7_init 412 = .ok (.bipush 101, 2) := by decide +kernel
theorem dX7_init_414 : decode cX7_init 414 = .ok (.iastore, 1) := by decide +kernel
theorem dX7_init_415 : decode cX7_init 415 = .ok (.dup, 1) := by decide +kernel
theorem dX7_init_416 : decode cX7_init 416 = .ok (.bipush 20, 2) := by decide +kernel
theorem dX7_init_418 : decode cX7_init 418 = .ok (.bipush 115, 2) := by decide +kernel
theorem dX7_init_420 : decode cX7_init 420 = .ok (.iastore, 1) := by decide +kernel
theorem dX7_init_421 : decode cX7_init 421 = .ok (.dup, 1) := by decide +kernel
theorem dX7_init_422 : decode cX7_init 422 = .ok (.bipush 21, 2) := by decide +kernel
theorem dX7_init_424 : decode cX7_init 424 = .ok (.bipush 32, 2) := by decide +kernel
theorem dX7_init_426 : decode cX7_init 426 = .ok (.iastore, 1) := by decide +kernel
theorem dX7_init_427 : decode cX7_init 427 = .ok (.dup, 1) := by decide +kernel
theorem dX7_init_428 : decode cX7_init 428 = .ok (.bipush 22, 2) := by decide +kernel
theorem dX7_init_430 : decode cX7_init 430 = .ok (.bipush 32, 2) := by decide +kernel
theorem dX7_init_432 : decode cX7_init 432 = .ok (.iastore, 1) := by decide +kernel
theorem dX7_init_433 : decode cX7_init 433 = .ok (.dup, 1) := by decide +kernel
theorem dX7_init_434 : decode cX7_init 434 = .ok (.bipush 23, 2) := by decide +kernel
theorem dX7_init_436 : decode cX7_init 436 = .ok (.bipush 32, 2) := by decide +kernel
theorem dX7_init_438 : decode cX7_init 438 = .ok (.iastore, 1) := by decide +kernel
theorem dX7_init_439 : decode cX7_init 439 = .ok (.dup, 1) := by decide +kernel
theorem dX7_init_440 : decode cX7_init 440 = .ok (.bipush 24, 2) := by decide +kernel
theorem dX7_init_442 : decode cX7_init 442 = .ok (.bipush 104, 2) := by decide +kernel
theorem dX7_init_444 : decode cX7_init 444 = .ok (.iastore, 1) := by decide +kernel
theorem dX7_init_445 : decode cX7_init 445 = .ok (.dup, 1) := by decide +kernel
theorem dX7_init_446 : decode cX7_init 446 = .ok (.bipush 25, 2) := by decide +kernel
theorem dX7_init_448 : decode cX7_init 448 = .ok (.bipush 101, 2) := by decide +kernel
theorem dX7_init_450 : decode cX7_init 450 = .ok (.iastore, 1) := by decide +kernel
theorem dX7_init_451 : decode cX7_init 451 = .ok (.dup, 1) := by decide +kernel
theorem dX7_init_452 : decode cX7_init 452 = .ok (.bipush 26, 2) := by decide +kernel
theorem dX7_init_454 : decode cX7_init 454 = .ok (.bipush 97, 2) := by decide +kernel
theorem dX7_init_456 : decode cX7_init 456 = .ok (.iastore, 1) := by decide +kernel
theorem dX7_init_457 : decode cX7_init 457 = .ok (.dup, 1) := by decide +kernel
theorem dX7_init_458 : decode cX7_init 458 = .ok (.bipush 27, 2) := by decide +kernel
theorem dX7_init_460 : decode cX7_init 460 = .ok (.bipush 116, 2) := by decide +kernel
theorem dX7_init_462 : decode cX7_init 462 = .ok (.iastore, 1) := by decide +kernel
theorem dX7_init_463 : decode cX7_init 463 = .ok (.dup, 1) := by decide +kernel
theorem dX7_init_464 : decode cX7_init 464 = .ok (.bipush 28, 2) := by decide +kernel
theorem dX7_init_466 : decode cX7_init 466 = .ok (.bipush 32, 2) := by decide +kernel
theorem dX7_init_468 : decode cX7_init 468 = .ok (.iastore, 1) := by decide +kernel
theorem dX7_init_469 : decode cX7_init 469 = .ok (.dup, 1) := by decide +kernel
theorem dX7_init_470 : decode cX7_init 470 = .ok (.bipush 29, 2) := by decide +kernel
theorem dX7_init_472 : decode cX7_init 472 = .ok (.bipush 32, 2) := by decide +kernel
theorem dX7_init_474 : decode cX7_init 474 = .ok (.iastore, 1) := by decide +kernel
theorem dX7_init_475 : decode cX7_init 475 = .ok (.dup, 1) := by decide +kernel
theorem dX7_init_476 : decode cX7_init 476 = .ok (.bipush 30, 2) := by decide +kernel
theorem dX7_init_478 : decode cX7_init 478 = .ok (.bipush 32, 2) := by decide +kernel
theorem dX7_init_480 : decode cX7_init 480 = .ok (.iastore, 1) := by decide +kernel
theorem dX7_init_481 : decode cX7_init 481 = .ok (.dup, 1) := by decide +kernel
theorem dX7_init_482 : decode cX7_init 482 = .ok (.bipush 31, 2) := by decide +kernel
theorem dX7_init_484 : decode cX7_init 484 = .ok (.bipush 32, 2) := by decide +kernel
theorem dX7_init_486 : decode cX7_init 486 = .ok (.iastore, 1) := by decide +kernel
theorem dX7_init_487 : decode cX7_init 487 = .ok (.dup, 1) := by decide +kernel
theorem dX7_init_488 : decode cX7_init 488 = .ok (.bipush 32, 2) := by decide +kernel
theorem dX7_init_490 : decode cX7_init 490 = .ok (.bipush 109, 2) := by decide +kernel
theorem dX7_init_492 : decode cX7_init 492 = .ok (.iastore, 1) := by decide +kernel
theorem dX7_init_493 : decode cX7_init 493 = .ok (.dup, 1) := by decide +kernel
theorem dX7_init_494 : decode cX7_init 494 = .ok (.bipush 33, 2) := by decide +kernel
theorem dX7_init_496 : decode cX7_init 496 = .ok (.bipush 105, 2) := by decide +kernel
theorem dX7_init_498 : decode cX7_init 498 = .ok (.iastore, 1) := by decide +kernel
theorem dX7_init_499 : decode cX7_init 499 = .ok (.dup, 1) := by decide +kernel
theorem dX7_init_500 : decode cX7_init 500 = .ok (.bipush 34, 2) := by decide +kernel
theorem dX7_init_502 : decode cX7_init 502 = .ok (.bipush 110, 2) := by decide +kernel
theorem dX7_init_504 : decode cX7_init 504 = .ok (.iastore, 1) := by decide +kernel
theorem dX7_init_505 : decode cX7_init 505 = .ok (.dup, 1) := by decide +kernel
theorem dX7_init_506 : decode cX7_init 506 = .ok (.bipush 35, 2) := by decide +kernel
theorem dX7_init_508 : decode cX7_init 508 = .ok (.bipush 117, 2) := by decide +kernel
theorem dX7_init_510 : decode cX7_init 510 = .ok (.iastore, 1) := by decide +kernel
theorem dX7_init_511 : decode cX7_init 511 = .ok (.dup, 1) := by decide +kernel
theorem dX7_init_512 : decode cX7_init 512 = .ok (.bipush 36, 2) := by decide +kernel
theorem dX7_init_514 : decode cX7_init 514 = .ok (.bipush 116, 2) := by decide +kernel
theorem dX7_init_516 : decode cX7_init 516 = .ok (.iastore, 1) := by decide +kernel
theorem dX7_init_517 : decode cX7_init 517 = .ok (.dup, 1) := by decide +kernel
theorem dX7_init_518 : decode cX7_init 518 = .ok (.bipush 37, 2) := by decide +kernel
theorem dX7_init_520 : decode cX7_init 520 = .ok (.bipush 101, 2) := by decide +kernel
theorem dX7_init_522 : decode cX7_init 522 = .ok (.iastore, 1) := by decide +kernel
theorem dX7_init_523 : decode cX7_init 523 = .ok (.dup, 1) := by decide +kernel
theorem dX7_init_524 : decode cX7_init 524 = .ok (.bipush 38, 2) := by decide +kernel
theorem dX7_init_526 : decode cX7_init 526 = .ok (.bipush 32, 2) := by decide +kernel
theorem dX7_init_528 : decode cX7_init 528 = .ok (.iastore, 1) := by decide +kernel
theorem dX7_init_529 : decode cX7_init 529 = .ok (.dup, 1) := by decide +kernel
theorem dX7_init_530 : decode cX7_init 530 = .ok (.bipush 39, 2) := by decide +kernel
theorem dX7_init_532 : decode cX7_init 532 = .ok (.bipush 32, 2) := by decide +kernel
theorem dX7_init_534 : decode cX7_init 534 = .ok (.iastore, 1) := by decide +kernel
theorem dX7_init_535 : decode cX7_init 535 = .ok (.dup, 1) := by decide +kernel
theorem dX7_init_536 : decode cX7_init 536 = .ok (.bipush 40, 2) := by decide +kernel
theorem dX7_init_538 : decode cX7_init 538 = .ok (.bipush 100, 2) := by decide +kernel
theorem dX7_init_540 : decode cX7_init 540 = .ok (.iastore, 1) := by decide +kernel
theorem dX7_init_541 : decode cX7_init 541 = .ok (.dup, 1) := by decide +kernel
theorem dX7_init_542 : decode cX7_init 542 = .ok (.bipush 41, 2) := by decide +kernel
theorem dX7_init_544 : decode cX7_init 544 = .ok (.bipush 111, 2) := by decide +kernel
theorem dX7_init_546 : decode cX7_init 546 = .ok (.iastore, 1) := by decide +kernel
theorem dX7_init_547 : decode cX7_init 547 = .ok (.dup, 1) := by decide +kernel
theorem dX7_init_548 : decode cX7_init 548 = .ok (.bipush 42, 2) := by decide +kernel
theorem dX7_init_550 : decode cX7_init 550 = .ok (.bipush 119, 2) := by decide +kernel
theorem dX7_init_552 : decode cX7_init 552 = .ok (.iastore, 1) := by decide +kernel
theorem dX7_init_553 : decode cX7_init 553 = .ok (.dup, 1) := by decide +kernel
theorem dX7_init_554 : decode cX7_init 554 = .ok (.bipush 43, 2) := by decide +kernel
theorem dX7_init_556 : decode cX7_init 556 = .ok (.bipush 110, 2) := by decide +kernel
theorem dX7_init_558 : decode cX7_init 558 = .ok (.iastore, 1) := by decide +kernel
theorem dX7_init_559 : decode cX7_init 559 = .ok (.dup, 1) := by decide +kernel
theorem dX7_init_560 : decode cX7_init 560 = .ok (.bipush 44, 2) := by decide +kernel
theorem dX7_init_562 : decode cX7_init 562 = .ok (.bipush 32, 2) := by decide +kernel
theorem dX7_init_564 : decode cX7_init 564 = .ok (.iastore, 1) := by decide +kernel
theorem dX7_init_565 : decode cX7_init 565 = .ok (.dup, 1) := by decide +kernel
theorem dX7_init_566 : decode cX7_init 566 = .ok (.bipush 45, 2) := by decide +kernel
theorem dX7_init_568 : decode cX7_init 568 = .ok (.bipush 32, 2) := by decide +kernel
theorem dX7_init_570 : decode cX7_init 570 = .ok (.iastore, 1) := by decide +kernel
theorem dX7_init_571 : decode cX7_init 571 = .ok (.dup, 1) := by decide +kernel
theorem dX7_init_572 : decode cX7_init 572 = .ok (.bipush 46, 2) := by decide +kernel
theorem dX7_init_574 : decode cX7_init 574 = .ok (.bipush 32, 2) := by decide +kernel
theorem dX7_init_576 : decode cX7_init 576 = .ok (.iastore, 1) := by decide +kernel
theorem dX7_init_577 : decode cX7_init 577 = .ok (.dup, 1) := by decide +kernel
theorem dX7_init_578 : decode cX7_init 578 = .ok (.bipush 47, 2) := by decide +kernel
theorem dX7_init_580 : decode cX7_init 580 = .ok (.bipush 32, 2) := by decide +kernel
theorem dX7_init_582 : decode cX7_init 582 = .ok (.iastore, 1) := by decide +kernel
theorem dX7_init_583 : decode cX7_init 583 = .ok (.dup, 1) := by decide +kernel
theorem dX7_init_584 : decode cX7_init 584 = .ok (.bipush 48, 2) := by decide +kernel
theorem dX7_init_586 : decode cX7_init 586 = .ok (.bipush 114, 2) := by decide +kernel
theorem dX7_init_588 : decode cX7_init 588 = .ok (.iastore, 1) := by decide +kernel
theorem dX7_init_589 : decode cX7_init 589 = .ok (.dup, 1) := by decide +kernel
theorem dX7_init_590 : decode cX7_init 590 = .ok (.bipush 49, 2) := by decide +kernel
theorem dX7_init_592 : decode cX7_init 592 = .ok (.bipush 97, 2) := by decide +kernel
theorem dX7_init_594 : decode cX7_init 594 = .ok (.iastore, 1) := by decide +kernel
theorem dX7_init_595 : decode cX7_init 595 = .ok (.dup, 1) := by decide +kernel
theorem dX7_init_596 : decode cX7_init 596 = .ok (.bipush 50, 2) := by decide +kernel
theorem dX7_init_598 : decode cX7_init 598 = .ok (.bipush 110, 2) := by decide +kernel
theorem dX7_init_600 : decode cX7_init 600 = .ok (.iastore, 1) := by decide +kernel
theorem dX7_init_601 : decode cX7_init 601 = .ok (.dup, 1) := by decide +kernel
theorem dX7_init_602 : decode cX7_init 602 = .ok (.bipush 51, 2) := by decide +kernel
theorem dX7_init_604 : decode cX7_init 604 = .ok (.bipush 107, 2) := by decide +kernel
theorem dX7_init_606 : decode cX7_init 606 = .ok (.iastore, 1) := by decide +kernel
theorem dX7_init_607 : decode cX7_init 607 = .ok (.dup, 1) := by decide +kernel
theorem dX7_init_608 : decode cX7_init 608 = .ok (.bipush 52, 2) := by decide +kernel
theorem dX7_init_610 : decode cX7_init 610 = .ok (.bipush 32, 2) := by decide +kernel
theorem dX7_init_612 : decode cX7_init 612 = .ok (.iastore, 1) := by decide +kernel
theorem dX7_init_613 : decode cX7_init 613 = .ok (.dup, 1) := by decide +kernel
theorem dX7_init_614 : decode cX7_init 614 = .ok (.bipush 53, 2) := by decide +kernel
theorem dX7_init_616 : decode cX7_init 616 = .ok (.bipush 32, 2) := by decide +kernel
theorem dX7_init_618 : decode cX7_init 618 = .ok (.iastore, 1) := by decide +kernel
theorem dX7_init_619 : decode cX7_init 619 = .ok (.dup, 1) := by decide +kernel
theorem dX7_init_620 : decode cX7_init 620 = .ok (.bipush 54, 2) := by decide +kernel
theorem dX7_init_622 : decode cX7_init 622 = .ok (.bipush 32, 2) := by decide +kernel
theorem dX7_init_624 : decode cX7_init 624 = .ok (.iastore, 1) := by decide +kernel
theorem dX7_init_625 : decode cX7_init 625 = .ok (.dup, 1) := by decide +kernel
theorem dX7_init_626 : decode cX7_init 626 = .ok (.bipush 55, 2) := by decide +kernel
theorem dX7_init_628 : decode cX7_init 628 = .ok (.bipush 32, 2) := by decide +kernel
theorem dX7_init_630 : decode cX7_init 630 = .ok (.iastore, 1) := by decide +kernel
theorem dX7_init_631 : decode cX7_init 631 = .ok (.dup, 1) := by decide +kernel
theorem dX7_init_632 : decode cX7_init 632 = .ok (.bipush 56, 2) := by decide +kernel
theorem dX7_init_634 : decode cX7_init 634 = .ok (.bipush 109, 2) := by decide +kernel
theorem dX7_init_636 : decode cX7_init 636 = .ok (.iastore, 1) := by decide +kernel
theorem dX7_init_637 : decode cX7_init 637 = .ok (.dup, 1) := by decide +kernel
theorem dX7_init_638 : decode cX7_init 638 = .ok (.bipush 57, 2) := by decide +kernel
theorem dX7_init_640 : decode cX7_init 640 = .ok (.bipush 111, 2) := by decide +kernel
theorem dX7_init_642 : decode cX7_init 642 = .ok (.iastore, 1) := by decide +kernel
theorem dX7_init_643 : decode cX7_init 643 = .ok (.dup, 1) := by decide +kernel
theorem dX7_init_644 : decode cX7_init 644 = .ok (.bipush 58, 2) := by decide +kernel
theorem dX7_init_646 : decode cX7_init 646 = .ok (.bipush 111, 2) := by decide +kernel
theorem dX7_init_648 : decode cX7_init 648 = .ok (.iastore, 1) := by decide +kernel
theorem dX7_init_649 : decode cX7_init 649 = .ok (.dup, 1) := by decide +kernel
theorem dX7_init_650 : decode cX7_init 650 = .ok (.bipush 59, 2) := by decide +kernel
theorem dX7_init_652 : decode cX7_init 652 = .ok (.bipush 100, 2) := by decide +kernel
theorem dX7_init_654 : decode cX7_init 654 = .ok (.iastore, 1) := by decide +kernel
theorem dX7_init_655 : decode cX7_init 655 = .ok (.dup, 1) := by decide +kernel
theorem dX7_init_656 : decode cX7_init 656 = .ok (.bipush 60, 2) := by decide +kernel
theorem dX7_init_658 : decode cX7_init 658 = .ok (.bipush 32, 2) := by decide +kernel
theorem dX7_init_660 : decode cX7_init 660 = .ok (.iastore, 1) := by decide +kernel
theorem dX7_init_661 : decode cX7_init 661 = .ok (.dup, 1) := by decide +kernel
theorem dX7_init_662 : decode cX7_init 662 = .ok (.bipush 61, 2) := by decide +kernel
theorem dX7_init_664 : decode cX7_init 664 = .ok (.bipush 32, 2) := by decide +kernel
theorem dX7_init_666 : decode cX7_init 666 = .ok (.iastore, 1) := by decide +kernel
theorem dX7_init_667 : decode cX7_init 667 = .ok (.dup, 1) := by decide +kernel
theorem dX7_init_668 : decode cX7_init 668 = .ok (.bipush 62, 2) := by decide +kernel
theorem dX7_init_670 : decode cX7_init 670 = .ok (.bipush 32, 2) := by decide +kernel
theorem dX7_init_672 : decode cX7_init 672 = .ok (.iastore, 1) := by decide +kernel
theorem dX7_init_673 : decode cX7_init 673 = .ok (.dup, 1) := by decide +kernel
theorem dX7_init_674 : decode cX7_init 674 = .ok (.bipush 63, 2) := by decide +kernel
theorem dX7_init_676 : decode cX7_init 676 = .ok (.bipush 32, 2) := by decide +kernel
theorem dX7_init_678 : decode cX7_init 678 = .ok (.iastore, 1) := by decide +kernel
theorem dX7_init_679 : decode cX7_init 679 = .ok (.dup, 1) := by decide +kernel
theorem dX7_init_680 : decode cX7_init 680 = .ok (.bipush 64, 2) := by decide +kernel
theorem dX7_init_682 : decode cX7_init 682 = .ok (.bipush 109, 2) := by decide +kernel
theorem dX7_init_684 : decode cX7_init 684 = .ok (.iastore, 1) := by decide +kernel
theorem dX7_init_685 : decode cX7_init 685 = .ok (.dup, 1) := by decide +kernel
theorem dX7_init_686 : decode cX7_init 686 = .ok (.bipush 65, 2) := by decide +kernel
theorem dX7_init_688 : decode cX7_init 688 = .ok (.bipush 111, 2) := by decide +kernel
theorem dX7_init_690 : decode cX7_init 690 = .ok (.iastore, 1) := by decide +kernel
theorem dX7_init_691 : decode cX7_init 691 = .ok (.dup, 1) := by decide +kernel
theorem dX7_init_692 : decode cX7_init 692 = .ok (.bipush 66, 2) := by decide +kernel
theorem dX7_init_694 : decode cX7_init 694 = .ok (.bipush 114, 2) := by decide +kernel
theorem dX7_init_696 : decode cX7_init 696 = .ok (.iastore, 1) := by decide +kernel
theorem dX7_init_697 : decode cX7_init 697 = .ok (.dup, 1) := by decide +kernel
theorem dX7_init_698 : decode cX7_init 698 = .ok (.bipush 67, 2) := by decide +kernel
theorem dX7_init_700 : decode cX7_init 700 = .ok (.bipush 101, 2) := by decide +kernel
theorem dX7_init_702 : decode cX7_init 702 = .ok (.iastore, 1) := by decide +kernel
theorem dX7_init_703 : decode cX7_init 703 = .ok (.dup, 1) := by decide +kernel
theorem dX7_init_704 : decode cX7_init 704 = .ok (.bipush 68, 2) := by decide +kernel
theorem dX7_init_706 : decode cX7_init 706 = .ok (.bipush 32, 2) := by decide +kernel
theorem dX7_init_708 : decode cX7_init 708 = .ok (.iastore, 1) := by decide +kernel
theorem dX7_init_709 : decode cX7_init 709 = .ok (.dup, 1) := by decide +kernel
theorem dX7_init_710 : decode cX7_init 710 = .ok (.bipush 69, 2) := by decide +kernel
theorem dX7_init_712 : decode cX7_init 712 = .ok (.bipush 32, 2) := by decide +kernel
theorem dX7_init_714 : decode cX7_init 714 = .ok (.iastore, 1) := by decide +kernel
theorem dX7_init_715 : decode cX7_init 715 = .ok (.dup, 1) := by decide +kernel
theorem dX7_init_716 : decode cX7_init 716 = .ok (.bipush 70, 2) := by decide +kernel
theorem dX7_init_718 : decode cX7_init 718 = .ok (.bipush 32, 2) := by decide +kernel
theorem dX7_init_720 : decode cX7_init 720 = .ok (.iastore, 1) := by decide +kernel
theorem dX7_init_721 : decode cX7_init 721 = .ok (.dup, 1) := by decide +kernel
theorem dX7_init_722 : decode cX7_init 722 = .ok (.bipush 71, 2) := by decide +kernel
theorem dX7_init_724 : decode cX7_init 724 = .ok (.bipush 32, 2) := by decide +kernel
theorem dX7_init_726 : decode cX7_init 726 = .ok (.iastore, 1) := by decide +kernel
theorem dX7_init_727 : decode cX7_init 727 = .ok (.dup, 1) := by decide +kernel
theorem dX7_init_728 : decode cX7_init 728 = .ok (.bipush 72, 2) := by decide +kernel
theorem dX7_init_730 : decode cX7_init 730 = .ok (.bipush 111, 2) := by decide +kernel
theorem dX7_init_732 : decode cX7_init 732 = .ok (.iastore, 1) := by decide +kernel
theorem dX7_init_733 : decode cX7_init 733 = .ok (.dup, 1) := by decide +kernel
theorem dX7_init_734 : decode cX7_init 734 = .ok (.bipush 73, 2) := by decide +kernel
theorem dX7_init_736 : decode cX7_init 736 = .ok (.bipush 114, 2) := by decide +kernel
theorem dX7_init_738 : decode cX7_init 738 = .ok (.iastore, 1) := by decide +kernel
theorem dX7_init_739 : decode cX7_init 739 = .ok (.dup, 1) := by decide +kernel
theorem dX7_init_740 : decode cX7_init 740 = .ok (.bipush 74, 2) := by decide +kernel
theorem dX7_init_742 : decode cX7_init 742 = .ok (.bipush 32, 2) := by decide +kernel
theorem dX7_init_744 : decode cX7_init 744 = .ok (.iastore, 1) := by decide +kernel
theorem dX7_init_745 : decode cX7_init 745 = .ok (.dup, 1) := by decide +kernel
theorem dX7_init_746 : decode cX7_init 746 = .ok (.bipush 75, 2) := by decide +kernel
theorem dX7_init_748 : decode cX7_init 748 = .ok (.bipush 32, 2) := by decide +kernel
theorem dX7_init_750 : decode cX7_init 750 = .ok (.iastore, 1) := by decide +kernel
theorem dX7_init_751 : decode cX7_init 751 = .ok (.dup, 1) := by decide +kernel
theorem dX7_init_752 : decode cX7_init 752 = .ok (.bipush 76, 2) := by decide +kernel
theorem dX7_init_754 : decode cX7_init 754 = .ok (.bipush 32, 2) := by decide +kernel
theorem dX7_init_756 : decode cX7_init 756 = .ok (.iastore, 1) := by decide +kernel
theorem dX7_init_757 : decode cX7_init 757 = .ok (.dup, 1) := by decide +kernel
theorem dX7_init_758 : decode cX7_init 758 = .ok (.bipush 77, 2) := by decide +kernel
theorem dX7_init_760 : decode cX7_init 760 = .ok (.bipush 32, 2) := by decide +kernel
theorem dX7_init_762 : decode cX7_init 762 = .ok (.iastore, 1) := by decide +kernel
theorem dX7_init_763 : decode cX7_init 763 = .ok (.dup, 1) := by decide +kernel
theorem dX7_init_764 : decode cX7_init 764 = .ok (.bipush 78, 2) := by decide +kernel
theorem dX7_init_766 : decode cX7_init 766 = .ok (.bipush 32, 2) := by decide +kernel
theorem dX7_init_768 : decode cX7_init 768 = .ok (.iastore, 1) := by decide +kernel
theorem dX7_init_769 : decode cX7_init 769 = .ok (.dup, 1) := by decide +kernel
theorem dX7_init_770 : decode cX7_init 770 = .ok (.bipush 79, 2) := by decide +kernel
theorem dX7_init_772 : decode cX7_init 772 = .ok (.bipush 32, 2) := by decide +kernel
theorem dX7_init_774 : decode cX7_init 774 = .ok (.iastore, 1) := by decide +kernel
theorem dX7_init_775 : decode cX7_init 775 = .ok (.dup, 1) := by decide +kernel
theorem dX7_init_776 : decode cX7_init 776 = .ok (.bipush 80, 2) := by decide +kernel
theorem dX7_init_778 : decode cX7_init 778 = .ok (.bipush 97, 2) := by decide +kernel
theorem dX7_init_780 : decode cX7_init 780 = .ok (.iastore, 1) := by decide +kernel
theorem dX7_init_781 : decode cX7_init 781 = .ok (.dup, 1) := by decide +kernel
theorem dX7_init_782 : decode cX7_init 782 = .ok (.bipush 81, 2) := by decide +kernel
theorem dX7_init_784 : decode cX7_init 784 = .ok (.bipush 110, 2) := by decide +kernel
theorem dX7_init_786 : decode cX7_init 786 = .ok (.iastore, 1) := by decide +kernel
theorem dX7_init_787 : decode cX7_init 787 = .ok (.dup, 1) := by decide +kernel
theorem dX7_init_788 : decode cX7_init 788 = .ok (.bipush 82, 2) := by decide +kernel
theorem dX7_init_790 : decode cX7_init 790 = .ok (.bipush 100, 2) := by decide +kernel
theorem dX7_init_792 : decode cX7_init 792 = .ok (.iastore, 1) := by decide +kernel
theorem dX7_init_793 : decode cX7_init 793 = .ok (.dup, 1) := by decide +kernel
theorem dX7_init_794 : decode cX7_init 794 = .ok (.bipush 83, 2) := by decide +kernel
theorem dX7_init_796 : decode cX7_init 796 = .ok (.bipush 32, 2) := by decide +kernel
theorem dX7_init_798 : decode cX7_init 798 = .ok (.iastore, 1) := by decide +kernel
theorem dX7_init_799 : decode cX7_init 799 = .ok (.dup, 1) := by decide +kernel
theorem dX7_init_800 : decode cX7_init 800 = .ok (.bipush 84, 2) := by decide +kernel
theorem dX7_init_802 : decode cX7_init 802 = .ok (.bipush 32, 2) := by decide +kernel
theorem dX7_init_804 : decode cX7_init 804 = .ok (.iastore, 1) := by decide +kernel
theorem dX7_init_805 : decode cX7_init 805 = .ok (.dup, 1) := by decide +kernel
theorem dX7_init_806 : decode cX7_init 806 = .ok (.bipush 85, 2) := by decide +kernel
theorem dX7_init_808 : decode cX7_init 808 = .ok (.bipush 32, 2) := by decide +kernel
theorem dX7_init_810 : decode cX7_init 810 = .ok (.iastore, 1) := by decide +kernel
theorem dX7_init_811 : decode cX7_init 811 = .ok (.dup, 1) := by decide +kernel
theorem dX7_init_812 : decode cX7_init 812 = .ok (.bipush 86, 2) := by decide +kernel
theorem dX7_init_814 : decode cX7_init 814 = .ok (.bipush 32, 2) := by decide +kernel
theorem dX7_init_816 : decode cX7_init 816 = .ok (.iastore, 1) := by decide +kernel
theorem dX7_init_817 : decode cX7_init 817 = .ok (.dup, 1) := by decide +kernel
theorem dX7_init_818 : decode cX7_init 818 = .ok (.bipush 87, 2) := by decide +kernel
theorem dX7_init_820 : decode cX7_init 820 = .ok (.bipush 32, 2) := by decide +kernel
theorem dX7_init_822 : decode cX7_init 822 = .ok (.iastore, 1) := by decide +kernel
theorem dX7_init_823 : decode cX7_init 823 = .ok (.dup, 1) := by decide +kernel
theorem dX7_init_824 : decode cX7_init 824 = .ok (.bipush 88, 2) := by decide +kernel
theorem dX7_init_826 : decode cX7_init 826 = .ok (.bipush 110, 2) := by decide +kernel
theorem dX7_init_828 : decode cX7_init 828 = .ok (.iastore, 1) := by decide +kernel
theorem dX7_init_829 : decode cX7_init 829 = .ok (.dup, 1) := by decide +kernel
theorem dX7_init_830 : decode cX7_init 830 = .ok (.bipush 89, 2) := by decide +kernel
theorem dX7_init_832 : decode cX7_init 832 = .ok (.bipush 111, 2) := by decide +kernel
theorem dX7_init_834 : decode cX7_init 834 = .ok (.iastore, 1) := by decide +kernel
theorem dX7_init_835 : decode cX7_init 835 = .ok (.dup, 1) := by decide +kernel
theorem dX7_init_836 : decode cX7_init 836 = .ok (.bipush 90, 2) := by decide +kernel
theorem dX7_init_838 : decode cX7_init 838 = .ok (.bipush 116, 2) := by decide +kernel
theorem dX7_init_840 : decode cX7_init 840 = .ok (.iastore, 1) := by decide +kernel
theorem dX7_init_841 : decode cX7_init 841 = .ok (.dup, 1) := by decide +kernel
theorem dX7_init_842 : decode cX7_init 842 = .ok (.bipush 91, 2) := by decide +kernel
theorem dX7_init_844 : decode cX7_init 844 = .ok (.bipush 32, 2) := by decide +kernel
theorem dX7_init_846 : decode cX7_init 846 = .ok (.iastore, 1) := by decide +kernel
theorem dX7_init_847 : decode cX7_init 847 = .ok (.dup, 1) := by decide +kernel
theorem dX7_init_848 : decode cX7_init 848 = .ok (.bipush 92, 2) := by decide +kernel
theorem dX7_init_850 : decode cX7_init 850 = .ok (.bipush 32, 2) := by decide +kernel
theorem dX7_init_852 : decode cX7_init 852 = .ok (.iastore, 1) := by decide +kernel
theorem dX7_init_853 : decode cX7_init 853 = .ok (.dup, 1) := by decide +kernel
theorem dX7_init_854 : decode cX7_init 854 = .ok (.bipush 93, 2) := by decide +kernel
theorem dX7_init_856 : decode cX7_init 856 = .ok (.bipush 32, 2) := by decide +kernel
theorem dX7_init_858 : decode cX7_init 858 = .ok (.iastore, 1) := by decide +kernel
theorem dX7_init_859 : decode cX7_init 859 = .ok (.dup, 1) := by decide +kernel
theorem dX7_init_860 : decode cX7_init 860 = .ok (.bipush 94, 2) := by decide +kernel
theorem dX7_init_862 : decode cX7_init 862 = .ok (.bipush 32, 2) := by decide +kernel
theorem dX7_init_864 : decode cX7_init 864 = .ok (.iastore, 1) := by decide +kernel
theorem dX7_init_865 : decode cX7_init 865 = .ok (.dup, 1) := by decide +kernel
theorem dX7_init_866 : decode cX7_init 866 = .ok (.bipush 95, 2) := by decide +kernel
theorem dX7_init_868 : decode cX7_init 868 = .ok (.bipush 32, 2) := by decide +kernel
theorem dX7_init_870 : decode cX7_init 870 = .ok (.iastore, 1) := by decide +kernel
theorem dX7_init_871 : decode cX7_init 871 = .ok (.putfield 50, 3) := by decide +kernel
theorem dX7_init_874 : decode cX7_init 874 = .ok (.aload_n 0, 1) := by decide +kernel
theorem dX7_init_875 : decode cX7_init 875 = .ok (.sipush 200, 3) := by decide +kernel
theorem dX7_init_878 : decode cX7_init 878 = .ok (.newarray .int, 2) := by decide +kernel
theorem dX7_init_880 : decode cX7_init 880 = .ok (.putfield 53, 3) := by decide +kernel
theorem dX7_init_883 : decode cX7_init 883 = .ok (.aload_n 0, 1) := by decide +kernel
theorem dX7_init_884 : decode cX7_init 884 = .ok (.sipush 200, 3) := by decide +kernel
theorem dX7_init_887 : decode cX7_init 887 = .ok (.newarray .int, 2) := by decide +kernel
theorem dX7_init_889 : decode cX7_init 889 = .ok (.putfield 56, 3) := by decide +kernel
theorem dX7_init_892 : decode cX7_init 892 = .ok (.aload_n 0, 1) := by decide +kernel
theorem dX7_init_893 : decode cX7_init 893 = .ok (.bipush 6, 2) := by decide +kernel
theorem dX7_init_895 : decode cX7_init 895 = .ok (.newarray .int, 2) := by decide +kernel
theorem dX7_init_897 : decode cX7_init 897 = .ok (.putfield 59, 3) := by decide +kernel
theorem dX7_init_900 : decode cX7_init 900 = .ok (.aload_n 0, 1) := by decide +kernel
theorem dX7_init_901 : decode cX7_init 901 = .ok (.bipush 6, 2) := by decide +kernel
theorem dX7_init_903 : decode cX7_init 903 = .ok (.newarray .int, 2) := by decide +kernel
theorem dX7_init_905 : decode cX7_init 905 = .ok (.putfield 62, 3) := by decide +kernel
theorem dX7_init_908 : decode cX7_init 908 = .ok (.aload_n 0, 1) := by decide +kernel
theorem dX7_init_909 : decode cX7_init 909 = .ok (.bipush 6, 2) := by decide +kernel
theorem dX7_init_911 : decode cX7_init 911 = .ok (.newarray .int, 2) := by decide +kernel
theorem dX7_init_913 : decode cX7_init 913 = .ok (.putfield 65, 3) := by decide +kernel
theorem dX7_init_916 : decode cX7_init 916 = .ok (.aload_n 0, 1) := by decide +kernel
theorem dX7_init_917 : decode cX7_init 917 = .ok (.bipush 6, 2) := by decide +kernel
theorem dX7_init_919 : decode cX7_init 919 = .ok (.newarray .int, 2) := by decide +kernel
theorem dX7_init_921 : decode cX7_init 921 = .ok (.putfield 68, 3) := by decide +kernel
theorem dX7_init_924 : decode cX7_init 924 = .ok (.aload_n 0, 1) := by decide +kernel
theorem dX7_init_925 : decode cX7_init 925 = .ok (.bipush 6, 2) := by decide +kernel
theorem dX7_init_927 : decode cX7_init 927 = .ok (.newarray .int, 2) := by decide +kernel
theorem dX7_init_929 : decode cX7_init 929 = .ok (.putfield 71, 3) := by decide +kernel
theorem dX7_init_932 : decode cX7_init 932 = .ok (.aload_n 0, 1) := by decide +kernel
theorem dX7_init_933 : decode cX7_init 933 = .ok (.bipush 6, 2) := by decide +kernel
theorem dX7_init_935 : decode cX7_init 935 = .ok (.newarray .int, 2) := by decide +kernel
theorem dX7_init_937 : decode cX7_init 937 = .ok (.putfield 74, 3) := by decide +kernel
theorem dX7_init_940 : decode cX7_init 940 = .ok (.aload_n 0, 1) := by decide +kernel
theorem dX7_init_941 : decode cX7_init 941 = .ok (.bipush 6, 2) := by decide +kernel
theorem dX7_init_943 : decode cX7_init 943 = .ok (.newarray .int, 2) := by decide +kernel
theorem dX7_init_945 : decode cX7_init 945 = .ok (.putfield 77, 3) := by decide +kernel
theorem dX7_init_948 : decode cX7_init 948 = .ok (.aload_n 0, 1) := by decide +kernel
theorem dX7_init_949 : decode cX7_init 949 = .ok (.bipush 13, 2) := by decide +kernel
theorem dX7_init_951 : decode cX7_init 951 = .ok (.newarray .int, 2) := by decide +kernel
theorem dX7_init_953 : decode cX7_init 953 = .ok (.putfield 80, 3) := by decide +kernel
theorem dX7_init_956 : decode cX7_init 956 = .ok (.iconst 0, 1) := by decide +kernel
theorem dX7_init_957 : decode cX7_init 957 = .ok (.istore_n 1, 1) := by decide +kernel
theorem dX7_init_958 : decode cX7_init 958 = .ok (.iload_n 1, 1) := by decide +kernel
theorem dX7_init_959 : decode cX7_init 959 = .ok (.bipush 30, 2) := by decide +kernel
theorem dX7_init_961 : decode cX7_init 961 = .ok (.if_icmp .ge 21, 3) := by decide +kernel
theorem dX7_init_964 : decode cX7_init 964 = .ok (.aload_n 0, 1) := by decide +kernel
theorem dX7_init_965 : decode cX7_init 965 = .ok (.getfield 23, 3) := by decide +kernel
theorem dX7_init_968 : decode cX7_init 968 = .ok (.iload_n 1, 1) := by decide +kernel
theorem dX7_init_969 : decode cX7_init 969 = .ok (.aload_n 0, 1) := by decide +kernel
theorem dX7_init_970 : decode cX7_init 970 = .ok (.getfield 47, 3) := by decide +kernel
theorem dX7_init_973 : decode cX7_init 973 = .ok (.iload_n 1, 1) := by decide +kernel
theorem dX7_init_974 : decode cX7_init 974 = .ok (.iaload, 1) := by decide +kernel
theorem dX7_init_975 : decode cX7_init 975 = .ok (.iastore, 1) := by decide +kernel
theorem dX7_init_976 : decode cX7_init 976 = .ok (.iinc 1 1, 3) := by decide +kernel
theorem dX7_init_979 : decode cX7_init 979 = .ok (.goto (-21), 3) := by decide +kernel
theorem dX7_init_982 : decode cX7_init 982 = .ok (.aload_n 0, 1) := by decide +kernel
theorem dX7_init_983 : decode cX7_init 983 = .ok (.bipush 30, 2) := by decide +kernel
theorem dX7_init_985 : decode cX7_init 985 = .ok (.putfield 83, 3) := by decide +kernel
theorem dX7_init_988 : decode cX7_init 988 = .ok (.aload_n 0, 1) := by decide +kernel
theorem dX7_init_989 : decode cX7_init 989 = .ok (.invokevirtual 86, 3) := by decide +kernel
theorem dX7_init_992 : decode cX7_init 992 = .ok (.pop, 1) := by decide +kernel
theorem dX7_init_993 : decode cX7_init 993 = .ok (.return_, 1) := by decide +kernel
theorem dX7_in_0 : decode cX7_in 0 = .ok (.iload_n 0, 1) := by decide +kernel
theorem dX7_in_1 : decode cX7_in 1 = .ok (.iload_n 1, 1) := by decide +kernel
theorem dX7_in_2 : decode cX7_in 2 = .ok (.if_icmp .lt 12, 3) := by decide +kernel
theorem dX7_in_5 : decode cX7_in 5 = .ok (.iload_n 0, 1) := by decide +kernel
theorem dX7_in_6 : decode cX7_in 6 = .ok (.iload_n 2, 1) := by decide +kernel
theorem dX7_in_7 : decode cX7_in 7 = .ok (.if_icmp .gt 7, 3) := by decide +kernel
theorem dX7_in_10 : decode cX7_in 10 = .ok (.iconst 1, 1) := by decide +kernel
theorem dX7_in_11 : decode cX7_in 11 = .ok (.goto 4, 3) := by decide +kernel
theorem dX7_in_14 : decode cX7_in 14 = .ok (.iconst 0, 1) := by decide +kernel
theorem dX7_in_15 : decode cX7_in 15 = .ok (.ireturn, 1) := by decide +kernel
theorem dX7_within_0 : decode cX7_within 0 = .ok (.iload_n 0, 1) := by decide +kernel
theorem dX7_within_1 : decode cX7_within 1 = .ok (.iload_n 1, 1) := by decide +kernel
theorem dX7_within_2 : decode cX7_within 2 = .ok (.if_icmp .ge 7, 3) := by decide +kernel
theorem dX7_within_5 : decode cX7_within 5 = .ok (.iload_n 1, 1) := by decide +kernel
theorem dX7_within_6 : decode cX7_within 6 = .ok (.goto 13, 3) := by decide +kernel
theorem dX7_within_9 : decode cX7_within 9 = .ok (.iload_n 0, 1) := by decide +kernel
theorem dX7_within_10 : decode cX7_within 10 = .ok (.iload_n 2, 1) := by decide +kernel
theorem dX7_within_11 : decode cX7_within 11 = .ok (.if_icmp .le 7, 3) := by decide +kernel
theorem dX7_within_14 : decode cX7_within 14 = .ok (.iload_n 2, 1) := by decide +kernel
theorem dX7_within_15 : decode cX7_within 15 = .ok (.goto 4, 3) := by decide +kernel
theorem dX7_within_18 : decode cX7_within 18 = .ok (.iload_n 0, 1) := by decide +kernel
theorem dX7_within_19 : decode cX7_within 19 = .ok (.ireturn, 1) := by decide +kernel
set_option maxRecDepth 20000 in
theorem ggX7_isOne_X7_in : GoodIn wsX7_isOne wsX7_in := goodIn_q _ [5] [] rfl (by decide +kernel) (by decide +kernel)
set_option maxRecDepth 20000 in
theorem gX7_isOne_X7_in : GoodIn wsX7_isOne (va_wsS RX7 93 yX7_in wsX7_in) := goodIn_app (goodIn_of _ (by decide +kernel)) ggX7_isOne_X7_in
theorem dX7_isOne_0 : decode cX7_isOne 0 = .ok (.iload_n 1, 1) := by decide +kernel
theorem dX7_isOne_1 : decode cX7_isOne 1 = .ok (.iconst 0, 1) := by decide +kernel
theorem dX7_isOne_2 : decode cX7_isOne 2 = .ok (.aload_n 0, 1) := by decide +kernel
theorem dX7_isOne_3 : decode cX7_isOne 3 = .ok (.getfield 90, 3) := by decide +kernel
theorem dX7_isOne_6 : decode cX7_isOne 6 = .ok (.iconst 1, 1) := by decide +kernel
theorem dX7_isOne_7 : decode cX7_isOne 7 = .ok (.isub, 1) := by decide +kernel
theorem dX7_isOne_8 : decode cX7_isOne 8 = .ok (.invokestatic 93, 3) := by decide +kernel
theorem dX7_isOne_11 : decode cX7_isOne 11 = .ok (.ireturn, 1) := by decide +kernel
theorem dX7_count_0 : decode cX7_count 0 = .ok (.iload_n 1, 1) := by decide +kernel
theorem dX7_count_1 : decode cX7_count 1 = .ok (.tableswitch 69 0 5 #[39, 44, 49, 54, 59, 64], 39) := by decide +kernel
theorem dX7_count_40 : decode cX7_count 40 = .ok (.aload_n 0, 1) := by decide +kernel
theorem dX7_count_41 : decode cX7_count 41 = .ok (.getfield 90, 3) := by decide +kernel
theorem dX7_count_44 : decode cX7_count 44 = .ok (.ireturn, 1) := by decide +kernel
theorem dX7_count_45 : decode cX7_count 45 = .ok (.aload_n 0, 1) := by decide +kernel
theorem dX7_count_46 : decode cX7_count 46 = .ok (.getfield 97, 3) := by decide +kernel
theorem dX7_count_49 : decode cX7_count 49 = .ok (.ireturn, 1) := by decide +kernel
theorem dX7_count_50 : decode cX7_count 50 = .ok (.aload_n 0, 1) := by decide +kernel
theorem dX7_count_51 : decode cX7_count 51 = .ok (.getfield 19, 3) := by decide +kernel
theorem dX7_count_54 : decode cX7_count 54 = .ok (.ireturn, 1) := by decide +kernel
theorem dX7_count_55 : decode cX7_count 55 = .ok (.aload_n 0, 1) := by decide +kernel
theorem dX7_count_56 : decode cX7_count 56 = .ok (.getfield 100, 3) := by decide +kernel
theorem dX7_count_59 : decode cX7_count 59 = .ok (.ireturn, 1) := by decide +kernel
theorem dX7_count_60 : decode cX7_count 60 = .ok (.aload_n 0, 1) := by decide +kernel
theorem dX7_count_61 : decode cX7_count 61 = .ok (.getfield 103, 3) := by decide +kernel
theorem dX7_count_64 : decode cX7_count 64 = .ok (.ireturn, 1) := by decide +kernel
theorem dX7_count_65 : decode cX7_count 65 = .ok (.aload_n 0, 1) := by decide +kernel
theorem dX7_count_66 : decode cX7_count 66 = .ok (.getfield 83, 3) := by decide +kernel
theorem dX7_count_69 : decode cX7_count 69 = .ok (.ireturn, 1) := by decide +kernel
theorem dX7_count_70 : decode cX7_count 70 = .ok (.bipush (-2), 2) := by decide +kernel
theorem dX7_count_72 : decode cX7_count 72 = .ok (.ireturn, 1) := by decide +kernel
set_option maxRecDepth 20000 in
theorem ggX7_brings_X7_in : GoodIn wsX7_brings wsX7_in := goodIn_q _ [6] [] rfl (by decide +kernel) (by decide +kernel)
set_option maxRecDepth 20000 in
theorem gX7_brings_X7_in : GoodIn wsX7_brings (va_wsS RX7 93 yX7_in wsX7_in) := goodIn_app (goodIn_of _ (by decide +kernel)) ggX7_brings_X7_in
theorem dX7_brings_0 : decode cX7_brings 0 = .ok (.iload_n 1, 1) := by decide +kernel
theorem dX7_brings_1 : decode cX7_brings 1 = .ok (.iconst 0, 1) := by decide +kernel
theorem dX7_brings_2 : decode cX7_brings 2 = .ok (.iconst 1, 1) := by decide +kernel
theorem dX7_brings_3 : decode cX7_brings 3 = .ok (.invokestatic 93, 3) := by decide +kernel
theorem dX7_brings_6 : decode cX7_brings 6 = .ok (.ifCond .eq 23, 3) := by decide +kernel
theorem dX7_brings_9 : decode cX7_brings 9 = .ok (.iload_n 2, 1) := by decide +kernel
theorem dX7_brings_10 : decode cX7_brings 10 = .ok (.iconst 0, 1) := by decide +kernel
theorem dX7_brings_11 : decode cX7_brings 11 = .ok (.iload_n 1, 1) := by decide +kernel
theorem dX7_brings_12 : decode cX7_brings 12 = .ok (.ifCond .ne 9, 3) := by decide +kernel
theorem dX7_brings_15 : decode cX7_brings 15 = .ok (.sipush 999, 3) := by decide +kernel
theorem dX7_brings_18 : decode cX7_brings 18 = .ok (.goto 5, 3) := by decide +kernel
theorem dX7_brings_21 : decode cX7_brings 21 = .ok (.bipush 99, 2) := by decide +kernel
theorem dX7_brings_23 : decode cX7_brings 23 = .ok (.invokestatic 93, 3) := by decide +kernel
theorem dX7_brings_26 : decode cX7_brings 26 = .ok (.ifCond .ne 6, 3) := by decide +kernel
theorem dX7_brings_29 : decode cX7_brings 29 = .ok (.bipush (-2), 2) := by decide +kernel
theorem dX7_brings_31 : decode cX7_brings 31 = .ok (.ireturn, 1) := by decide +kernel
theorem dX7_brings_32 : decode cX7_brings 32 = .ok (.iload_n 1, 1) := by decide +kernel
theorem dX7_brings_33 : decode cX7_brings 33 = .ok (.ifCond .ne 10, 3) := by decide +kernel
theorem dX7_brings_36 : decode cX7_brings 36 = .ok (.aload_n 0, 1) := by decide +kernel
theorem dX7_brings_37 : decode cX7_brings 37 = .ok (.getfield 97, 3) := by decide +kernel
theorem dX7_brings_40 : decode cX7_brings 40 = .ok (.goto 7, 3) := by decide +kernel
theorem dX7_brings_43 : decode cX7_brings 43 = .ok (.aload_n 0, 1) := by decide +kernel
theorem dX7_brings_44 : decode cX7_brings 44 = .ok (.getfield 19, 3) := by decide +kernel
theorem dX7_brings_47 : decode cX7_brings 47 = .ok (.istore_n 3, 1) := by decide +kernel
theorem dX7_brings_48 : decode cX7_brings 48 = .ok (.iload_n 1, 1) := by decide +kernel
theorem dX7_brings_49 : decode cX7_brings 49 = .ok (.ifCond .ne 11, 3) := by decide +kernel
theorem dX7_brings_52 : decode cX7_brings 52 = .ok (.aload_n 0, 1) := by decide +kernel
theorem dX7_brings_53 : decode cX7_brings 53 = .ok (.iload_n 2, 1) := by decide +kernel
theorem dX7_brings_54 : decode cX7_brings 54 = .ok (.putfield 97, 3) := by decide +kernel
theorem dX7_brings_57 : decode cX7_brings 57 = .ok (.goto 8, 3) := by decide +kernel
theorem dX7_brings_60 : decode cX7_brings 60 = .ok (.aload_n 0, 1) := by decide +kernel
theorem dX7_brings_61 : decode cX7_brings 61 = .ok (.iload_n 2, 1) := by decide +kernel
theorem dX7_brings_62 : decode cX7_brings 62 = .ok (.putfield 19, 3) := by decide +kernel
theorem dX7_brings_65 : decode cX7_brings 65 = .ok (.iload_n 3, 1) := by decide +kernel
theorem dX7_brings_66 : decode cX7_brings 66 = .ok (.ireturn, 1) := by decide +kernel
set_option maxRecDepth 20000 in
theorem ggX7_isByte_X7_in : GoodIn wsX7_isByte wsX7_in := goodIn_q _ [4] [] rfl (by decide +kernel) (by decide +kernel)
set_option maxRecDepth 20000 in
theorem gX7_isByte_X7_in : GoodIn wsX7_isByte (va_wsS RX7 93 yX7_in wsX7_in) := goodIn_app (goodIn_of _ (by decide +kernel)) ggX7_isByte_X7_in
theorem dX7_isByte_0 : decode cX7_isByte 0 = .ok (.iload_n 0, 1) := by decide +kernel
theorem dX7_isByte_1 : decode cX7_isByte 1 = .ok (.iconst 0, 1) := by decide +kernel
theorem dX7_isByte_2 : decode cX7_isByte 2 = .ok (.sipush 255, 3) := by decide +kernel
theorem dX7_isByte_5 : decode cX7_isByte 5 = .ok (.invokestatic 93, 3) := by decide +kernel
theorem dX7_isByte_8 : decode cX7_isByte 8 = .ok (.ireturn, 1) := by decide +kernel
set_option maxRecDepth 20000 in
theorem ggX7_feed_X7_in : GoodIn wsX7_feed wsX7_in := goodIn_q _ [6] [] rfl (by decide +kernel) (by decide +kernel)
set_option maxRecDepth 20000 in
theorem gX7_feed_X7_in : GoodIn wsX7_feed (va_wsS RX7 93 yX7_in wsX7_in) := goodIn_app (goodIn_of _ (by decide +kernel)) ggX7_feed_X7_in
set_option maxRecDepth 20000 in
theorem ggX7_feed_X7_isByte : GoodIn wsX7_feed wsX7_isByte := goodIn_q _ [9, 6] [3, 4, 5] rfl (by decide +kernel) (by decide +kernel)
set_option maxRecDepth 20000 in
theorem gX7_feed_X7_isByte : GoodIn wsX7_feed (va_wsS RX7 106 yX7_isByte wsX7_isByte) := goodIn_app (goodIn_of _ (by decide +kernel)) ggX7_feed_X7_isByte
theorem dX7_feed_0 : decode cX7_feed 0 = .ok (.iload_n 1, 1) := by decide +kernel
theorem dX7_feed_1 : decode cX7_feed 1 = .ok (.iconst 1, 1) := by decide +kernel
theorem dX7_feed_2 : decode cX7_feed 2 = .ok (.iconst 5, 1) := by decide +kernel
theorem dX7_feed_3 : decode cX7_feed 3 = .ok (.invokestatic 93, 3) := by decide +kernel
theorem dX7_feed_6 : decode cX7_feed 6 = .ok (.ifCond .eq 41, 3) := by decide +kernel
theorem dX7_feed_9 : decode cX7_feed 9 = .ok (.iload_n 2, 1) := by decide +kernel
theorem dX7_feed_10 : decode cX7_feed 10 = .ok (.invokestatic 106, 3) := by decide +kernel
theorem dX7_feed_13 : decode cX7_feed 13 = .ok (.ifCond .eq 34, 3) := by decide +kernel
theorem dX7_feed_16 : decode cX7_feed 16 = .ok (.iload_n 3, 1) := by decide +kernel
theorem dX7_feed_17 : decode cX7_feed 17 = .ok (.invokestatic 106, 3) := by decide +kernel
theorem dX7_feed_20 : decode cX7_feed 20 = .ok (.ifCond .eq 27, 3) := by decide +kernel
theorem dX7_feed_23 : decode cX7_feed 23 = .ok (.iload 4, 2) := by decide +kernel
theorem dX7_feed_25 : decode cX7_feed 25 = .ok (.invokestatic 106, 3) := by decide +kernel
theorem dX7_feed_28 : decode cX7_feed 28 = .ok (.ifCond .eq 19, 3) := by decide +kernel
theorem dX7_feed_31 : decode cX7_feed 31 = .ok (.iload 5, 2) := by decide +kernel
theorem dX7_feed_33 : decode cX7_feed 33 = .ok (.invokestatic 106, 3) := by decide +kernel
theorem dX7_feed_36 : decode cX7_feed 36 = .ok (.ifCond .eq 11, 3) := by decide +kernel
theorem dX7_feed_39 : decode cX7_feed 39 = .ok (.iload 6, 2) := by decide +kernel
theorem dX7_feed_41 : decode cX7_feed 41 = .ok (.invokestatic 106, 3) := by decide +kernel
theorem dX7_feed_44 : decode cX7_feed 44 = .ok (.ifCond .ne 6, 3) := by decide +kernel
theorem dX7_feed_47 : decode cX7_feed 47 = .ok (.bipush (-2), 2) := by decide +kernel
theorem dX7_feed_49 : decode cX7_feed 49 = .ok (.ireturn, 1) := by decide +kernel
theorem dX7_feed_50 : decode cX7_feed 50 = .ok (.aload_n 0, 1) := by decide +kernel
theorem dX7_feed_51 : decode cX7_feed 51 = .ok (.getfield 83, 3) := by decide +kernel
theorem dX7_feed_54 : decode cX7_feed 54 = .ok (.iload_n 1, 1) := by decide +kernel
theorem dX7_feed_55 : decode cX7_feed 55 = .ok (.iadd, 1) := by decide +kernel
theorem dX7_feed_56 : decode cX7_feed 56 = .ok (.sipush 160, 3) := by decide +kernel
theorem dX7_feed_59 : decode cX7_feed 59 = .ok (.if_icmp .le 6, 3) := by decide +kernel
theorem dX7_feed_62 : decode cX7_feed 62 = .ok (.bipush (-4), 2) := by decide +kernel
theorem dX7_feed_64 : decode cX7_feed 64 = .ok (.ireturn, 1) := by decide +kernel
theorem dX7_feed_65 : decode cX7_feed 65 = .ok (.iconst 0, 1) := by decide +kernel
theorem dX7_feed_66 : decode cX7_feed 66 = .ok (.istore 7, 2) := by decide +kernel
theorem dX7_feed_68 : decode cX7_feed 68 = .ok (.iload 7, 2) := by decide +kernel
theorem dX7_feed_70 : decode cX7_feed 70 = .ok (.iload_n 1, 1) := by decide +kernel
theorem dX7_feed_71 : decode cX7_feed 71 = .ok (.if_icmp .ge 71, 3) := by decide +kernel
theorem dX7_feed_74 : decode cX7_feed 74 = .ok (.aload_n 0, 1) := by decide +kernel
theorem dX7_feed_75 : decode cX7_feed 75 = .ok (.getfield 23, 3) := by decide +kernel
theorem dX7_feed_78 : decode cX7_feed 78 = .ok (.aload_n 0, 1) := by decide +kernel
theorem dX7_feed_79 : decode cX7_feed 79 = .ok (.getfield 83, 3) := by decide +kernel
theorem dX7_feed_82 : decode cX7_feed 82 = .ok (.iload 7, 2) := by decide +kernel
theorem dX7_feed_84 : decode cX7_feed 84 = .ok (.ifCond .ne 7, 3) := by decide +kernel
theorem dX7_feed_87 : decode cX7_feed 87 = .ok (.iload_n 2, 1) := by decide +kernel
theorem dX7_feed_88 : decode cX7_feed 88 = .ok (.goto 37, 3) := by decide +kernel
theorem dX7_feed_91 : decode cX7_feed 91 = .ok (.iload 7, 2) := by decide +kernel
theorem dX7_feed_93 : decode cX7_feed 93 = .ok (.iconst 1, 1) := by decide +kernel
theorem dX7_feed_94 : decode cX7_feed 94 = .ok (.if_icmp .ne 7, 3) := by decide +kernel
theorem dX7_feed_97 : decode cX7_feed 97 = .ok (.iload_n 3, 1) := by decide +kernel
theorem dX7_feed_98 : decode cX7_feed 98 = .ok (.goto 27, 3) := by decide +kernel
theorem dX7_feed_101 : decode cX7_feed 101 = .ok (.iload 7, 2) := by decide +kernel
theorem dX7_feed_103 : decode cX7_feed 103 = .ok (.iconst 2, 1) := by decide +kernel
theorem dX7_feed_104 : decode cX7_feed 104 = .ok (.if_icmp .ne 8, 3) := by decide +kernel
theorem dX7_feed_107 : decode cX7_feed 107 = .ok (.iload 4, 2) := by decide +kernel
theorem dX7_feed_109 : decode cX7_feed 109 = .ok (.goto 16, 3) := by decide +kernel
theorem dX7_feed_112 : decode cX7_feed 112 = .ok (.iload 7, 2) := by decide +kernel
theorem dX7_feed_114 : decode cX7_feed 114 = .ok (.iconst 3, 1) := by decide +kernel
theorem dX7_feed_115 : decode cX7_feed 115 = .ok (.if_icmp .ne 8, 3) := by decide +kernel
theorem dX7_feed_118 : decode cX7_feed 118 = .ok (.iload 5, 2) := by decide +kernel
theorem dX7_feed_120 : decode cX7_feed 120 = .ok (.goto 5, 3) := by decide +kernel
theorem dX7_feed_123 : decode cX7_feed 123 = .ok (.iload 6, 2) := by decide +kernel
theorem dX7_feed_125 : decode cX7_feed 125 = .ok (.iastore, 1) := by decide +kernel
theorem dX7_feed_126 : decode cX7_feed 126 = .ok (.aload_n 0, 1) := by decide +kernel
theorem dX7_feed_127 : decode cX7_feed 127 = .ok (.dup, 1) := by decide +kernel
theorem dX7_feed_128 : decode cX7_feed 128 = .ok (.getfield 83, 3) := by decide +kernel
theorem dX7_feed_131 : decode cX7_feed 131 = .ok (.iconst 1, 1) := by decide +kernel
theorem dX7_feed_132 : decode cX7_feed 132 = .ok (.iadd, 1) := by decide +kernel
theorem dX7_feed_133 : decode cX7_feed 133 = .ok (.putfield 83, 3) := by decide +kernel
theorem dX7_feed_136 : decode cX7_feed 136 = .ok (.iinc 7 1, 3) := by decide +kernel
theorem dX7_feed_139 : decode cX7_feed 139 = .ok (.goto (-71), 3) := by decide +kernel
theorem dX7_feed_142 : decode cX7_feed 142 = .ok (.aload_n 0, 1) := by decide +kernel
theorem dX7_feed_143 : decode cX7_feed 143 = .ok (.getfield 83, 3) := by decide +kernel
theorem dX7_feed_146 : decode cX7_feed 146 = .ok (.ireturn, 1) := by decide +kernel
theorem dX7_wordFrom_0 : decode cX7_wordFrom 0 = .ok (.iconst 0, 1) := by decide +kernel
theorem dX7_wordFrom_1 : decode cX7_wordFrom 1 = .ok (.istore_n 3, 1) := by decide +kernel
theorem dX7_wordFrom_2 : decode cX7_wordFrom 2 = .ok (.iload_n 3, 1) := by decide +kernel
theorem dX7_wordFrom_3 : decode cX7_wordFrom 3 = .ok (.bipush 12, 2) := by decide +kernel
theorem dX7_wordFrom_5 : decode cX7_wordFrom 5 = .ok (.if_icmp .ge 96, 3) := by decide +kernel
theorem dX7_wordFrom_8 : decode cX7_wordFrom 8 = .ok (.iload_n 2, 1) := by decide +kernel
theorem dX7_wordFrom_9 : decode cX7_wordFrom 9 = .ok (.iload_n 1, 1) := by decide +kernel
theorem dX7_wordFrom_10 : decode cX7_wordFrom 10 = .ok (.isub, 1) := by decide +kernel
theorem dX7_wordFrom_11 : decode cX7_wordFrom 11 = .ok (.bipush 8, 2) := by decide +kernel
theorem dX7_wordFrom_13 : decode cX7_wordFrom 13 = .ok (.if_icmp .gt 7, 3) := by decide +kernel
theorem dX7_wordFrom_16 : decode cX7_wordFrom 16 = .ok (.iconst 1, 1) := by decide +kernel
theorem dX7_wordFrom_17 : decode cX7_wordFrom 17 = .ok (.goto 4, 3) := by decide +kernel
theorem dX7_wordFrom_20 : decode cX7_wordFrom 20 = .ok (.iconst 0, 1) := by decide +kernel
theorem dX7_wordFrom_21 : decode cX7_wordFrom 21 = .ok (.istore 4, 2) := by decide +kernel
theorem dX7_wordFrom_23 : decode cX7_wordFrom 23 = .ok (.iconst 0, 1) := by decide +kernel
theorem dX7_wordFrom_24 : decode cX7_wordFrom 24 = .ok (.istore 5, 2) := by decide +kernel
theorem dX7_wordFrom_26 : decode cX7_wordFrom 26 = .ok (.iload 5, 2) := by decide +kernel
theorem dX7_wordFrom_28 : decode cX7_wordFrom 28 = .ok (.bipush 8, 2) := by decide +kernel
theorem dX7_wordFrom_30 : decode cX7_wordFrom 30 = .ok (.if_icmp .ge 58, 3) := by decide +kernel
theorem dX7_wordFrom_33 : decode cX7_wordFrom 33 = .ok (.iload 4, 2) := by decide +kernel
theorem dX7_wordFrom_35 : decode cX7_wordFrom 35 = .ok (.ifCond .eq 53, 3) := by decide +kernel
theorem dX7_wordFrom_38 : decode cX7_wordFrom 38 = .ok (.aload_n 0, 1) := by decide +kernel
theorem dX7_wordFrom_39 : decode cX7_wordFrom 39 = .ok (.getfield 50, 3) := by decide +kernel
theorem dX7_wordFrom_42 : decode cX7_wordFrom 42 = .ok (.bipush 8, 2) := by decide +kernel
theorem dX7_wordFrom_44 : decode cX7_wordFrom 44 = .ok (.iload_n 3, 1) := by decide +kernel
theorem dX7_wordFrom_45 : decode cX7_wordFrom 45 = .ok (.imul, 1) := by decide +kernel
theorem dX7_wordFrom_46 : decode cX7_wordFrom 46 = .ok (.iload 5, 2) := by decide +kernel
theorem dX7_wordFrom_48 : decode cX7_wordFrom 48 = .ok (.iadd, 1) := by decide +kernel
theorem dX7_wordFrom_49 : decode cX7_wordFrom 49 = .ok (.iaload, 1) := by decide +kernel
theorem dX7_wordFrom_50 : decode cX7_wordFrom 50 = .ok (.iload_n 1, 1) := by decide +kernel
theorem dX7_wordFrom_51 : decode cX7_wordFrom 51 = .ok (.iload 5, 2) := by decide +kernel
theorem dX7_wordFrom_53 : decode cX7_wordFrom 53 = .ok (.iadd, 1) := by decide +kernel
theorem dX7_wordFrom_54 : decode cX7_wordFrom 54 = .ok (.iload_n 2, 1) := by decide +kernel
theorem dX7_wordFrom_55 : decode cX7_wordFrom 55 = .ok (.if_icmp .ge 15, 3) := by decide +kernel
theorem dX7_wordFrom_58 : decode cX7_wordFrom 58 = .ok (.aload_n 0, 1) := by decide +kernel
theorem dX7_wordFrom_59 : decode cX7_wordFrom 59 = .ok (.getfield 23, 3) := by decide +kernel
theorem dX7_wordFrom_62 : decode cX7_wordFrom 62 = .ok (.iload_n 1, 1) := by decide +kernel
theorem dX7_wordFrom_63 : decode cX7_wordFrom 63 = .ok (.iload 5, 2) := by decide +kernel
theorem dX7_wordFrom_65 : decode cX7_wordFrom 65 = .ok (.iadd, 1) := by decide +kernel
theorem dX7_wordFrom_66 : decode cX7_wordFrom 66 = .ok (.iaload, 1) := by decide +kernel
theorem dX7_wordFrom_67 : decode cX7_wordFrom 67 = .ok (.goto 5, 3) := by decide +kernel
theorem dX7_wordFrom_70 : decode cX7_wordFrom 70 = .ok (.bipush 32, 2) := by decide +kernel
theorem dX7_wordFrom_72 : decode cX7_wordFrom 72 = .ok (.if_icmp .ne 7, 3) := by decide +kernel
theorem dX7_wordFrom_75 : decode cX7_wordFrom 75 = .ok (.iconst 1, 1) := by decide +kernel
theorem dX7_wordFrom_76 : decode cX7_wordFrom 76 = .ok (.goto 4, 3) := by decide +kernel
theorem dX7_wordFrom_79 : decode cX7_wordFrom 79 = .ok (.iconst 0, 1) := by decide +kernel
theorem dX7_wordFrom_80 : decode cX7_wordFrom 80 = .ok (.istore 4, 2) := by decide +kernel
theorem dX7_wordFrom_82 : decode cX7_wordFrom 82 = .ok (.iinc 5 1, 3) := by decide +kernel
theorem dX7_wordFrom_85 : decode cX7_wordFrom 85 = .ok (.goto (-59), 3) := by decide +kernel
theorem dX7_wordFrom_88 : decode cX7_wordFrom 88 = .ok (.iload 4, 2) := by decide +kernel
theorem dX7_wordFrom_90 : decode cX7_wordFrom 90 = .ok (.ifCond .eq 5, 3) := by decide +kernel
theorem dX7_wordFrom_93 : decode cX7_wordFrom 93 = .ok (.iload_n 3, 1) := by decide +kernel
theorem dX7_wordFrom_94 : decode cX7_wordFrom 94 = .ok (.ireturn, 1) := by decide +kernel
theorem dX7_wordFrom_95 : decode cX7_wordFrom 95 = .ok (.iinc 3 1, 3) := by decide +kernel
theorem dX7_wordFrom_98 : decode cX7_wordFrom 98 = .ok (.goto (-96), 3) := by decide +kernel
theorem dX7_wordFrom_101 : decode cX7_wordFrom 101 = .ok (.bipush 12, 2) := by decide +kernel
theorem dX7_wordFrom_103 : decode cX7_wordFrom 103 = .ok (.ireturn, 1) := by decide +kernel
set_option maxRecDepth 20000 in
theorem ggX7_next_X7_in : GoodIn wsX7_next wsX7_in := goodIn_q _ [10] [] rfl (by decide +kernel) (by decide +kernel)
set_option maxRecDepth 20000 in
theorem gX7_next_X7_in : GoodIn wsX7_next (va_wsS RX7 93 yX7_in wsX7_in) := goodIn_app (goodIn_of _ (by decide +kernel)) ggX7_next_X7_in
set_option maxRecDepth 20000 in
theorem ggX7_next_X7_wordFrom : GoodIn wsX7_next wsX7_wordFrom := goodIn_q _ [14] [15, 3, 16, 17, 18, 19, 20, 21, 22, 23, 24, 25, 26, 27, 28, 29, 30, 31, 32, 33, 34, 35, 36, 37, 38, 39, 40, 41, 42, 43, 44, 45, 46, 47, 48, 49, 50, 51, 52, 53, 54, 55, 56, 57, 58] rfl (by decide +kernel) (by decide +kernel)
set_option maxRecDepth 20000 in
theorem gX7_next_X7_wordFrom : GoodIn wsX7_next (wsV RX7 122 RX7 yX7_wordFrom wsX7_wordFrom) := goodIn_app (goodIn_of _ (by decide +kernel)) ggX7_next_X7_wordFrom
theorem dX7_next_0 : decode cX7_next 0 = .ok (.aload_n 0, 1) := by decide +kernel
theorem dX7_next_1 : decode cX7_next 1 = .ok (.getfield 110, 3) := by decide +kernel
theorem dX7_next_4 : decode cX7_next 4 = .ok (.aload_n 0, 1) := by decide +kernel
theorem dX7_next_5 : decode cX7_next 5 = .ok (.getfield 83, 3) := by decide +kernel
theorem dX7_next_8 : decode cX7_next 8 = .ok (.if_icmp .ge 44, 3) := by decide +kernel
theorem dX7_next_11 : decode cX7_next 11 = .ok (.aload_n 0, 1) := by decide +kernel
theorem dX7_next_12 : decode cX7_next 12 = .ok (.getfield 23, 3) := by decide +kernel
theorem dX7_next_15 : decode cX7_next 15 = .ok (.aload_n 0, 1) := by decide +kernel
theorem dX7_next_16 : decode cX7_next 16 = .ok (.getfield 110, 3) := by decide +kernel
theorem dX7_next_19 : decode cX7_next 19 = .ok (.iaload, 1) := by decide +kernel
theorem dX7_next_20 : decode cX7_next 20 = .ok (.bipush 32, 2) := by decide +kernel
theorem dX7_next_22 : decode cX7_next 22 = .ok (.if_icmp .eq 17, 3) := by decide +kernel
theorem dX7_next_25 : decode cX7_next 25 = .ok (.aload_n 0, 1) := by decide +kernel
theorem dX7_next_26 : decode cX7_next 26 = .ok (.getfield 23, 3) := by decide +kernel
theorem dX7_next_29 : decode cX7_next 29 = .ok (.aload_n 0, 1) := by decide +kernel
theorem dX7_next_30 : decode cX7_next 30 = .ok (.getfield 110, 3) := by decide +kernel
theorem dX7_next_33 : decode cX7_next 33 = .ok (.iaload, 1) := by decide +kernel
theorem dX7_next_34 : decode cX7_next 34 = .ok (.bipush 10, 2) := by decide +kernel
theorem dX7_next_36 : decode cX7_next 36 = .ok (.if_icmp .ne 16, 3) := by decide +kernel
theorem dX7_next_39 : decode cX7_next 39 = .ok (.aload_n 0, 1) := by decide +kernel
theorem dX7_next_40 : decode cX7_next 40 = .ok (.dup, 1) := by decide +kernel
theorem dX7_next_41 : decode cX7_next 41 = .ok (.getfield 110, 3) := by decide +kernel
theorem dX7_next_44 : decode cX7_next 44 = .ok (.iconst 1, 1) := by decide +kernel
theorem dX7_next_45 : decode cX7_next 45 = .ok (.iadd, 1) := by decide +kernel
theorem dX7_next_46 : decode cX7_next 46 = .ok (.putfield 110, 3) := by decide +kernel
theorem dX7_next_49 : decode cX7_next 49 = .ok (.goto (-49), 3) := by decide +kernel
theorem dX7_next_52 : decode cX7_next 52 = .ok (.aload_n 0, 1) := by decide +kernel
theorem dX7_next_53 : decode cX7_next 53 = .ok (.aload_n 0, 1) := by decide +kernel
theorem dX7_next_54 : decode cX7_next 54 = .ok (.getfield 110, 3) := by decide +kernel
theorem dX7_next_57 : decode cX7_next 57 = .ok (.putfield 113, 3) := by decide +kernel
theorem dX7_next_60 : decode cX7_next 60 = .ok (.aload_n 0, 1) := by decide +kernel
theorem dX7_next_61 : decode cX7_next 61 = .ok (.iconst 0, 1) := by decide +kernel
theorem dX7_next_62 : decode cX7_next 62 = .ok (.putfield 116, 3) := by decide +kernel
theorem dX7_next_65 : decode cX7_next 65 = .ok (.aload_n 0, 1) := by decide +kernel
theorem dX7_next_66 : decode cX7_next 66 = .ok (.iconst 0, 1) := by decide +kernel
theorem dX7_next_67 : decode cX7_next 67 = .ok (.putfield 119, 3) := by decide +kernel
theorem dX7_next_70 : decode cX7_next 70 = .ok (.aload_n 0, 1) := by decide +kernel
theorem dX7_next_71 : decode cX7_next 71 = .ok (.getfield 110, 3) := by decide +kernel
theorem dX7_next_74 : decode cX7_next 74 = .ok (.aload_n 0, 1) := by decide +kernel
theorem dX7_next_75 : decode cX7_next 75 = .ok (.getfield 83, 3) := by decide +kernel
theorem dX7_next_78 : decode cX7_next 78 = .ok (.if_icmp .ne 4, 3) := by decide +kernel
theorem dX7_next_81 : decode cX7_next 81 = .ok (.return_, 1) := by decide +kernel
theorem dX7_next_82 : decode cX7_next 82 = .ok (.aload_n 0, 1) := by decide +kernel
theorem dX7_next_83 : decode cX7_next 83 = .ok (.getfield 23, 3) := by decide +kernel
theorem dX7_next_86 : decode cX7_next 86 = .ok (.aload_n 0, 1) := by decide +kernel
theorem dX7_next_87 : decode cX7_next 87 = .ok (.getfield 110, 3) := by decide +kernel
theorem dX7_next_90 : decode cX7_next 90 = .ok (.iaload, 1) := by decide +kernel
theorem dX7_next_91 : decode cX7_next 91 = .ok (.istore_n 1, 1) := by decide +kernel
theorem dX7_next_92 : decode cX7_next 92 = .ok (.iload_n 1, 1) := by decide +kernel
theorem dX7_next_93 : decode cX7_next 93 = .ok (.bipush 97, 2) := by decide +kernel
theorem dX7_next_95 : decode cX7_next 95 = .ok (.bipush 122, 2) := by decide +kernel
theorem dX7_next_97 : decode cX7_next 97 = .ok (.invokestatic 93, 3) := by decide +kernel
theorem dX7_next_100 : decode cX7_next 100 = .ok (.ifCond .eq 117, 3) := by decide +kernel
theorem dX7_next_103 : decode cX7_next 103 = .ok (.aload_n 0, 1) := by decide +kernel
theorem dX7_next_104 : decode cX7_next 104 = .ok (.getfield 110, 3) := by decide +kernel
theorem dX7_next_107 : decode cX7_next 107 = .ok (.aload_n 0, 1) := by decide +kernel
theorem dX7_next_108 : decode cX7_next 108 = .ok (.getfield 83, 3) := by decide +kernel
theorem dX7_next_111 : decode cX7_next 111 = .ok (.if_icmp .ge 35, 3) := by decide +kernel
theorem dX7_next_114 : decode cX7_next 114 = .ok (.aload_n 0, 1) := by decide +kernel
theorem dX7_next_115 : decode cX7_next 115 = .ok (.getfield 23, 3) := by decide +kernel
theorem dX7_next_118 : decode cX7_next 118 = .ok (.aload_n 0, 1) := by decide +kernel
theorem dX7_next_119 : decode cX7_next 119 = .ok (.getfield 110, 3) := by decide +kernel
theorem dX7_next_122 : decode cX7_next 122 = .ok (.iaload, 1) := by decide +kernel
theorem dX7_next_123 : decode cX7_next 123 = .ok (.bipush 97, 2) := by decide +kernel
theorem dX7_next_125 : decode cX7_next 125 = .ok (.bipush 122, 2) := by decide +kernel
theorem dX7_next_127 : decode cX7_next 127 = .ok (.invokestatic 93, 3) := by decide +kernel
theorem dX7_next_130 : decode cX7_next 130 = .ok (.ifCond .eq 16, 3) := by decide +kernel
theorem dX7_next_133 : decode cX7_next 133 = .ok (.aload_n 0, 1) := by decide +kernel
theorem dX7_next_134 : decode cX7_next 134 = .ok (.dup, 1) := by decide +kernel
theorem dX7_next_135 : decode cX7_next 135 = .ok (.getfield 110, 3) := by decide +kernel
theorem dX7_next_138 : decode cX7_next 138 = .ok (.iconst 1, 1) := by decide +kernel
theorem dX7_next_139 : decode cX7_next 139 = .ok (.iadd, 1) := by decide +kernel
theorem dX7_next_140 : decode cX7_next 140 = .ok (.putfield 110, 3) := by decide +kernel
theorem dX7_next_143 : decode cX7_next 143 = .ok (.goto (-40), 3) := by decide +kernel
theorem dX7_next_146 : decode cX7_next 146 = .ok (.aload_n 0, 1) := by decide +kernel
theorem dX7_next_147 : decode cX7_next 147 = .ok (.aload_n 0, 1) := by decide +kernel
theorem dX7_next_148 : decode cX7_next 148 = .ok (.getfield 113, 3) := by decide +kernel
theorem dX7_next_151 : decode cX7_next 151 = .ok (.aload_n 0, 1) := by decide +kernel
theorem dX7_next_152 : decode cX7_next 152 = .ok (.getfield 110, 3) := by decide +kernel
theorem dX7_next_155 : decode cX7_next 155 = .ok (.invokevirtual 122, 3) := by decide +kernel
theorem dX7_next_158 : decode cX7_next 158 = .ok (.istore_n 2, 1) := by decide +kernel
theorem dX7_next_159 : decode cX7_next 159 = .ok (.aload_n 0, 1) := by decide +kernel
theorem dX7_next_160 : decode cX7_next 160 = .ok (.iload_n 2, 1) := by decide +kernel
theorem dX7_next_161 : decode cX7_next 161 = .ok (.iconst 3, 1) := by decide +kernel
theorem dX7_next_162 : decode cX7_next 162 = .ok (.if_icmp .ge 7, 3) := by decide +kernel
theorem dX7_next_165 : decode cX7_next 165 = .ok (.iconst 3, 1) := by decide +kernel
theorem dX7_next_166 : decode cX7_next 166 = .ok (.goto 29, 3) := by decide +kernel
theorem dX7_next_169 : decode cX7_next 169 = .ok (.iload_n 2, 1) := by decide +kernel
theorem dX7_next_170 : decode cX7_next 170 = .ok (.bipush 9, 2) := by decide +kernel
theorem dX7_next_172 : decode cX7_next 172 = .ok (.if_icmp .ge 7, 3) := by decide +kernel
theorem dX7_next_175 : decode cX7_next 175 = .ok (.iconst 2, 1) := by decide +kernel
theorem dX7_next_176 : decode cX7_next 176 = .ok (.goto 19, 3) := by decide +kernel
theorem dX7_next_179 : decode cX7_next 179 = .ok (.iload_n 2, 1) := by decide +kernel
theorem dX7_next_180 : decode cX7_next 180 = .ok (.bipush 12, 2) := by decide +kernel
theorem dX7_next_182 : decode cX7_next 182 = .ok (.if_icmp .ne 7, 3) := by decide +kernel
theorem dX7_next_185 : decode cX7_next 185 = .ok (.iconst (-1), 1) := by decide +kernel
theorem dX7_next_186 : decode cX7_next 186 = .ok (.goto 9, 3) := by decide +kernel
theorem dX7_next_189 : decode cX7_next 189 = .ok (.iconst 4, 1) := by decide +kernel
theorem dX7_next_190 : decode cX7_next 190 = .ok (.iload_n 2, 1) := by decide +kernel
theorem dX7_next_191 : decode cX7_next 191 = .ok (.iadd, 1) := by decide +kernel
theorem dX7_next_192 : decode cX7_next 192 = .ok (.bipush 9, 2) := by decide +kernel
theorem dX7_next_194 : decode cX7_next 194 = .ok (.isub, 1) := by decide +kernel
theorem dX7_next_195 : decode cX7_next 195 = .ok (.putfield 116, 3) := by decide +kernel
theorem dX7_next_198 : decode cX7_next 198 = .ok (.aload_n 0, 1) := by decide +kernel
theorem dX7_next_199 : decode cX7_next 199 = .ok (.iload_n 2, 1) := by decide +kernel
theorem dX7_next_200 : decode cX7_next 200 = .ok (.iconst 3, 1) := by decide +kernel
theorem dX7_next_201 : decode cX7_next 201 = .ok (.if_icmp .ge 7, 3) := by decide +kernel
theorem dX7_next_204 : decode cX7_next 204 = .ok (.iload_n 2, 1) := by decide +kernel
theorem dX7_next_205 : decode cX7_next 205 = .ok (.goto 6, 3) := by decide +kernel
theorem dX7_next_208 : decode cX7_next 208 = .ok (.iload_n 2, 1) := by decide +kernel
theorem dX7_next_209 : decode cX7_next 209 = .ok (.iconst 3, 1) := by decide +kernel
theorem dX7_next_210 : decode cX7_next 210 = .ok (.isub, 1) := by decide +kernel
theorem dX7_next_211 : decode cX7_next 211 = .ok (.putfield 119, 3) := by decide +kernel
theorem dX7_next_214 : decode cX7_next 214 = .ok (.goto 189, 3) := by decide +kernel
theorem dX7_next_217 : decode cX7_next 217 = .ok (.iload_n 1, 1) := by decide +kernel
theorem dX7_next_218 : decode cX7_next 218 = .ok (.bipush 48, 2) := by decide +kernel
theorem dX7_next_220 : decode cX7_next 220 = .ok (.bipush 57, 2) := by decide +kernel
theorem dX7_next_222 : decode cX7_next 222 = .ok (.invokestatic 93, 3) := by decide +kernel
theorem dX7_next_225 : decode cX7_next 225 = .ok (.ifCond .eq 101, 3) := by decide +kernel
theorem dX7_next_228 : decode cX7_next 228 = .ok (.iconst 0, 1) := by decide +kernel
theorem dX7_next_229 : decode cX7_next 229 = .ok (.istore_n 2, 1) := by decide +kernel
theorem dX7_next_230 : decode cX7_next 230 = .ok (.aload_n 0, 1) := by decide +kernel
theorem dX7_next_231 : decode cX7_next 231 = .ok (.getfield 110, 3) := by decide +kernel
theorem dX7_next_234 : decode cX7_next 234 = .ok (.aload_n 0, 1) := by decide +kernel
theorem dX7_next_235 : decode cX7_next 235 = .ok (.getfield 83, 3) := by decide +kernel
theorem dX7_next_238 : decode cX7_next 238 = .ok (.if_icmp .ge 71, 3) := by decide +kernel
theorem dX7_next_241 : decode cX7_next 241 = .ok (.aload_n 0, 1) := by decide +kernel
theorem dX7_next_242 : decode cX7_next 242 = .ok (.getfield 23, 3) := by decide +kernel
theorem dX7_next_245 : decode cX7_next 245 = .ok (.aload_n 0, 1) := by decide +kernel
theorem dX7_next_246 : decode cX7_next 246 = .ok (.getfield 110, 3) := by decide +kernel
theorem dX7_next_249 : decode cX7_next 249 = .ok (.iaload, 1) := by decide +kernel
theorem dX7_next_250 : decode cX7_next 250 = .ok (.bipush 48, 2) := by decide +kernel
theorem dX7_next_252 : decode cX7_next 252 = .ok (.bipush 57, 2) := by decide +kernel
theorem dX7_next_254 : decode cX7_next 254 = .ok (.invokestatic 93, 3) := by decide +kernel
theorem dX7_next_257 : decode cX7_next 257 = .ok (.ifCond .eq 52, 3) := by decide +kernel
theorem dX7_next_260 : decode cX7_next 260 = .ok (.aload_n 0, 1) := by decide +kernel
theorem dX7_next_261 : decode cX7_next 261 = .ok (.iload_n 2, 1) := by decide +kernel
theorem dX7_next_262 : decode cX7_next 262 = .ok (.iconst 4, 1) := by decide +kernel
theorem dX7_next_263 : decode cX7_next 263 = .ok (.if_icmp .ge 26, 3) := by decide +kernel
theorem dX7_next_266 : decode cX7_next 266 = .ok (.bipush 10, 2) := by decide +kernel
theorem dX7_next_268 : decode cX7_next 268 = .ok (.aload_n 0, 1) := by decide +kernel
theorem dX7_next_269 : decode cX7_next 269 = .ok (.getfield 119, 3) := by decide +kernel
theorem dX7_next_272 : decode cX7_next 272 = .ok (.imul, 1) := by decide +kernel
theorem dX7_next_273 : decode cX7_next 273 = .ok (.aload_n 0, 1) := by decide +kernel
theorem dX7_next_274 : decode cX7_next 274 = .ok (.getfield 23, 3) := by decide +kernel
theorem dX7_next_277 : decode cX7_next 277 = .ok (.aload_n 0, 1) := by decide +kernel
theorem dX7_next_278 : decode cX7_next 278 = .ok (.getfield 110, 3) := by decide +kernel
theorem dX7_next_281 : decode cX7_next 281 = .ok (.iaload, 1) := by decide +kernel
theorem dX7_next_282 : decode cX7_next 282 = .ok (.iadd, 1) := by decide +kernel
theorem dX7_next_283 : decode cX7_next 283 = .ok (.bipush 48, 2) := by decide +kernel
theorem dX7_next_285 : decode cX7_next 285 = .ok (.isub, 1) := by decide +kernel
theorem dX7_next_286 : decode cX7_next 286 = .ok (.goto 4, 3) := by decide +kernel
theorem dX7_next_289 : decode cX7_next 289 = .ok (.iconst 0, 1) := by decide +kernel
theorem dX7_next_290 : decode cX7_next 290 = .ok (.putfield 119, 3) := by decide +kernel
theorem dX7_next_293 : decode cX7_next 293 = .ok (.iinc 2 1, 3) := by decide +kernel
theorem dX7_next_296 : decode cX7_next 296 = .ok (.aload_n 0, 1) := by decide +kernel
theorem dX7_next_297 : decode cX7_next 297 = .ok (.dup, 1) := by decide +kernel
theorem dX7_next_298 : decode cX7_next 298 = .ok (.getfield 110, 3) := by decide +kernel
theorem dX7_next_301 : decode cX7_next 301 = .ok (.iconst 1, 1) := by decide +kernel
theorem dX7_next_302 : decode cX7_next 302 = .ok (.iadd, 1) := by decide +kernel
theorem dX7_next_303 : decode cX7_next 303 = .ok (.putfield 110, 3) := by decide +kernel
theorem dX7_next_306 : decode cX7_next 306 = .ok (.goto (-76), 3) := by decide +kernel
theorem dX7_next_309 : decode cX7_next 309 = .ok (.aload_n 0, 1) := by decide +kernel
theorem dX7_next_310 : decode cX7_next 310 = .ok (.iload_n 2, 1) := by decide +kernel
theorem dX7_next_311 : decode cX7_next 311 = .ok (.iconst 4, 1) := by decide +kernel
theorem dX7_next_312 : decode cX7_next 312 = .ok (.if_icmp .le 7, 3) := by decide +kernel
theorem dX7_next_315 : decode cX7_next 315 = .ok (.iconst (-1), 1) := by decide +kernel
theorem dX7_next_316 : decode cX7_next 316 = .ok (.goto 4, 3) := by decide +kernel
theorem dX7_next_319 : decode cX7_next 319 = .ok (.iconst 1, 1) := by decide +kernel
theorem dX7_next_320 : decode cX7_next 320 = .ok (.putfield 116, 3) := by decide +kernel
theorem dX7_next_323 : decode cX7_next 323 = .ok (.goto 80, 3) := by decide +kernel
theorem dX7_next_326 : decode cX7_next 326 = .ok (.iload_n 1, 1) := by decide +kernel
theorem dX7_next_327 : decode cX7_next 327 = .ok (.bipush 40, 2) := by decide +kernel
theorem dX7_next_329 : decode cX7_next 329 = .ok (.if_icmp .eq 45, 3) := by decide +kernel
theorem dX7_next_332 : decode cX7_next 332 = .ok (.iload_n 1, 1) := by decide +kernel
theorem dX7_next_333 : decode cX7_next 333 = .ok (.bipush 41, 2) := by decide +kernel
theorem dX7_next_335 : decode cX7_next 335 = .ok (.if_icmp .eq 39, 3) := by decide +kernel
theorem dX7_next_338 : decode cX7_next 338 = .ok (.iload_n 1, 1) := by decide +kernel
theorem dX7_next_339 : decode cX7_next 339 = .ok (.bipush 59, 2) := by decide +kernel
theorem dX7_next_341 : decode cX7_next 341 = .ok (.if_icmp .eq 33, 3) := by decide +kernel
theorem dX7_next_344 : decode cX7_next 344 = .ok (.iload_n 1, 1) := by decide +kernel
theorem dX7_next_345 : decode cX7_next 345 = .ok (.bipush 43, 2) := by decide +kernel
theorem dX7_next_347 : decode cX7_next 347 = .ok (.if_icmp .eq 27, 3) := by decide +kernel
theorem dX7_next_350 : decode cX7_next 350 = .ok (.iload_n 1, 1) := by decide +kernel
theorem dX7_next_351 : decode cX7_next 351 = .ok (.bipush 45, 2) := by decide +kernel
theorem dX7_next_353 : decode cX7_next 353 = .ok (.if_icmp .eq 21, 3) := by decide +kernel
theorem dX7_next_356 : decode cX7_next 356 = .ok (.iload_n 1, 1) := by decide +kernel
theorem dX7_next_357 : decode cX7_next 357 = .ok (.bipush 42, 2) := by decide +kernel
theorem dX7_next_359 : decode cX7_next 359 = .ok (.if_icmp .eq 15, 3) := by decide +kernel
theorem dX7_next_362 : decode cX7_next 362 = .ok (.iload_n 1, 1) := by decide +kernel
theorem dX7_next_363 : decode cX7_next 363 = .ok (.bipush 60, 2) := by decide +kernel
theorem dX7_next_365 : decode cX7_next 365 = .ok (.if_icmp .eq 9, 3) := by decide +kernel
theorem dX7_next_368 : decode cX7_next 368 = .ok (.iload_n 1, 1) := by decide +kernel
theorem dX7_next_369 : decode cX7_next 369 = .ok (.bipush 61, 2) := by decide +kernel
theorem dX7_next_371 : decode cX7_next 371 = .ok (.if_icmp .ne 7, 3) := by decide +kernel
theorem dX7_next_374 : decode cX7_next 374 = .ok (.iconst 1, 1) := by decide +kernel
theorem dX7_next_375 : decode cX7_next 375 = .ok (.goto 4, 3) := by decide +kernel
theorem dX7_next_378 : decode cX7_next 378 = .ok (.iconst 0, 1) := by decide +kernel
theorem dX7_next_379 : decode cX7_next 379 = .ok (.istore_n 2, 1) := by decide +kernel
theorem dX7_next_380 : decode cX7_next 380 = .ok (.aload_n 0, 1) := by decide +kernel
theorem dX7_next_381 : decode cX7_next 381 = .ok (.iload_n 2, 1) := by decide +kernel
theorem dX7_next_382 : decode cX7_next 382 = .ok (.ifCond .eq 7, 3) := by decide +kernel
theorem dX7_next_385 : decode cX7_next 385 = .ok (.iload_n 1, 1) := by decide +kernel
theorem dX7_next_386 : decode cX7_next 386 = .ok (.goto 4, 3) := by decide +kernel
theorem dX7_next_389 : decode cX7_next 389 = .ok (.iconst (-1), 1) := by decide +kernel
theorem dX7_next_390 : decode cX7_next 390 = .ok (.putfield 116, 3) := by decide +kernel
theorem dX7_next_393 : decode cX7_next 393 = .ok (.aload_n 0, 1) := by decide +kernel
theorem dX7_next_394 : decode cX7_next 394 = .ok (.dup, 1) := by decide +kernel
theorem dX7_next_395 : decode cX7_next 395 = .ok (.getfield 110, 3) := by decide +kernel
theorem dX7_next_398 : decode cX7_next 398 = .ok (.iconst 1, 1) := by decide +kernel
theorem dX7_next_399 : decode cX7_next 399 = .ok (.iadd, 1) := by decide +kernel
theorem dX7_next_400 : decode cX7_next 400 = .ok (.putfield 110, 3) := by decide +kernel
theorem dX7_next_403 : decode cX7_next 403 = .ok (.return_, 1) := by decide +kernel
theorem dX7_rank_0 : decode cX7_rank 0 = .ok (.iload_n 0, 1) := by decide +kernel
theorem dX7_rank_1 : decode cX7_rank 1 = .ok (.ifCond .ne 7, 3) := by decide +kernel
theorem dX7_rank_4 : decode cX7_rank 4 = .ok (.iconst 0, 1) := by decide +kernel
theorem dX7_rank_5 : decode cX7_rank 5 = .ok (.goto 66, 3) := by decide +kernel
theorem dX7_rank_8 : decode cX7_rank 8 = .ok (.iload_n 0, 1) := by decide +kernel
theorem dX7_rank_9 : decode cX7_rank 9 = .ok (.bipush 11, 2) := by decide +kernel
theorem dX7_rank_11 : decode cX7_rank 11 = .ok (.if_icmp .ne 7, 3) := by decide +kernel
theorem dX7_rank_14 : decode cX7_rank 14 = .ok (.iconst 1, 1) := by decide +kernel
theorem dX7_rank_15 : decode cX7_rank 15 = .ok (.goto 56, 3) := by decide +kernel
theorem dX7_rank_18 : decode cX7_rank 18 = .ok (.iload_n 0, 1) := by decide +kernel
theorem dX7_rank_19 : decode cX7_rank 19 = .ok (.bipush 12, 2) := by decide +kernel
theorem dX7_rank_21 : decode cX7_rank 21 = .ok (.if_icmp .ne 7, 3) := by decide +kernel
theorem dX7_rank_24 : decode cX7_rank 24 = .ok (.iconst 2, 1) := by decide +kernel
theorem dX7_rank_25 : decode cX7_rank 25 = .ok (.goto 46, 3) := by decide +kernel
theorem dX7_rank_28 : decode cX7_rank 28 = .ok (.iload_n 0, 1) := by decide +kernel
theorem dX7_rank_29 : decode cX7_rank 29 = .ok (.bipush 13, 2) := by decide +kernel
theorem dX7_rank_31 : decode cX7_rank 31 = .ok (.if_icmp .ne 7, 3) := by decide +kernel
theorem dX7_rank_34 : decode cX7_rank 34 = .ok (.iconst 3, 1) := by decide +kernel
theorem dX7_rank_35 : decode cX7_rank 35 = .ok (.goto 36, 3) := by decide +kernel
theorem dX7_rank_38 : decode cX7_rank 38 = .ok (.iload_n 0, 1) := by decide +kernel
theorem dX7_rank_39 : decode cX7_rank 39 = .ok (.bipush 15, 2) := by decide +kernel
theorem dX7_rank_41 : decode cX7_rank 41 = .ok (.if_icmp .gt 7, 3) := by decide +kernel
theorem dX7_rank_44 : decode cX7_rank 44 = .ok (.iconst 4, 1) := by decide +kernel
theorem dX7_rank_45 : decode cX7_rank 45 = .ok (.goto 26, 3) := by decide +kernel
theorem dX7_rank_48 : decode cX7_rank 48 = .ok (.iload_n 0, 1) := by decide +kernel
theorem dX7_rank_49 : decode cX7_rank 49 = .ok (.bipush 17, 2) := by decide +kernel
theorem dX7_rank_51 : decode cX7_rank 51 = .ok (.if_icmp .gt 7, 3) := by decide +kernel
theorem dX7_rank_54 : decode cX7_rank 54 = .ok (.iconst 5, 1) := by decide +kernel
theorem dX7_rank_55 : decode cX7_rank 55 = .ok (.goto 16, 3) := by decide +kernel
theorem dX7_rank_58 : decode cX7_rank 58 = .ok (.iload_n 0, 1) := by decide +kernel
theorem dX7_rank_59 : decode cX7_rank 59 = .ok (.bipush 18, 2) := by decide +kernel
theorem dX7_rank_61 : decode cX7_rank 61 = .ok (.if_icmp .ne 8, 3) := by decide +kernel
theorem dX7_rank_64 : decode cX7_rank 64 = .ok (.bipush 6, 2) := by decide +kernel
theorem dX7_rank_66 : decode cX7_rank 66 = .ok (.goto 5, 3) := by decide +kernel
theorem dX7_rank_69 : decode cX7_rank 69 = .ok (.bipush 7, 2) := by decide +kernel
theorem dX7_rank_71 : decode cX7_rank 71 = .ok (.ireturn, 1) := by decide +kernel
theorem dX7_puts_0 : decode cX7_puts 0 = .ok (.aload_n 0, 1) := by decide +kernel
theorem dX7_puts_1 : decode cX7_puts 1 = .ok (.getfield 26, 3) := by decide +kernel
theorem dX7_puts_4 : decode cX7_puts 4 = .ok (.sipush 200, 3) := by decide +kernel
theorem dX7_puts_7 : decode cX7_puts 7 = .ok (.aload_n 0, 1) := by decide +kernel
theorem dX7_puts_8 : decode cX7_puts 8 = .ok (.getfield 100, 3) := by decide +kernel
theorem dX7_puts_11 : decode cX7_puts 11 = .ok (.imul, 1) := by decide +kernel
theorem dX7_puts_12 : decode cX7_puts 12 = .ok (.aload_n 0, 1) := by decide +kernel
theorem dX7_puts_13 : decode cX7_puts 13 = .ok (.getfield 126, 3) := by decide +kernel
theorem dX7_puts_16 : decode cX7_puts 16 = .ok (.iadd, 1) := by decide +kernel
theorem dX7_puts_17 : decode cX7_puts 17 = .ok (.iload_n 1, 1) := by decide +kernel
theorem dX7_puts_18 : decode cX7_puts 18 = .ok (.iastore, 1) := by decide +kernel
theorem dX7_puts_19 : decode cX7_puts 19 = .ok (.aload_n 0, 1) := by decide +kernel
theorem dX7_puts_20 : decode cX7_puts 20 = .ok (.dup, 1) := by decide +kernel
theorem dX7_puts_21 : decode cX7_puts 21 = .ok (.getfield 126, 3) := by decide +kernel
theorem dX7_puts_24 : decode cX7_puts 24 = .ok (.iconst 1, 1) := by decide +kernel
theorem dX7_puts_25 : decode cX7_puts 25 = .ok (.iadd, 1) := by decide +kernel
theorem dX7_puts_26 : decode cX7_puts 26 = .ok (.putfield 126, 3) := by decide +kernel
theorem dX7_puts_29 : decode cX7_puts 29 = .ok (.return_, 1) := by decide +kernel
set_option maxRecDepth 20000 in
theorem ggX7_unwinds_X7_rank : GoodIn wsX7_unwinds wsX7_rank := goodIn_q _ [7] [] rfl (by decide +kernel) (by decide +kernel)
set_option maxRecDepth 20000 in
theorem gX7_unwinds_X7_rank : GoodIn wsX7_unwinds (va_wsS RX7 132 yX7_rank wsX7_rank) := goodIn_app (goodIn_of _ (by decide +kernel)) ggX7_unwinds_X7_rank
set_option maxRecDepth 20000 in
theorem ggX7_unwinds_X7_puts : GoodIn wsX7_unwinds wsX7_puts := goodIn_q _ [11] [12, 13, 14, 15, 16, 17, 18, 19, 20, 21, 22, 23, 24, 25, 26, 27, 28, 29, 30, 31, 32, 33, 34, 35, 36, 37, 38, 39, 40, 41, 42, 43, 44, 45, 46, 47, 48, 49, 50, 51, 52, 53, 54, 55, 56, 57] rfl (by decide +kernel) (by decide +kernel)
set_option maxRecDepth 20000 in
theorem gX7_unwinds_X7_puts : GoodIn wsX7_unwinds (wsV RX7 139 RX7 yX7_puts wsX7_puts) := goodIn_app (goodIn_of _ (by decide +kernel)) ggX7_unwinds_X7_puts
theorem dX7_unwinds_0 : decode cX7_unwinds 0 = .ok (.aload_n 0, 1) := by decide +kernel
theorem dX7_unwinds_1 : decode cX7_unwinds 1 = .ok (.getfield 129, 3) := by decide +kernel
theorem dX7_unwinds_4 : decode cX7_unwinds 4 = .ok (.ifCond .le 75, 3) := by decide +kernel
theorem dX7_unwinds_7 : decode cX7_unwinds 7 = .ok (.aload_n 0, 1) := by decide +kernel
theorem dX7_unwinds_8 : decode cX7_unwinds 8 = .ok (.getfield 53, 3) := by decide +kernel
theorem dX7_unwinds_11 : decode cX7_unwinds 11 = .ok (.aload_n 0, 1) := by decide +kernel
theorem dX7_unwinds_12 : decode cX7_unwinds 12 = .ok (.getfield 129, 3) := by decide +kernel
theorem dX7_unwinds_15 : decode cX7_unwinds 15 = .ok (.iconst 1, 1) := by decide +kernel
theorem dX7_unwinds_16 : decode cX7_unwinds 16 = .ok (.isub, 1) := by decide +kernel
theorem dX7_unwinds_17 : decode cX7_unwinds 17 = .ok (.iaload, 1) := by decide +kernel
theorem dX7_unwinds_18 : decode cX7_unwinds 18 = .ok (.invokestatic 132, 3) := by decide +kernel
theorem dX7_unwinds_21 : decode cX7_unwinds 21 = .ok (.iload_n 1, 1) := by decide +kernel
theorem dX7_unwinds_22 : decode cX7_unwinds 22 = .ok (.if_icmp .lt 57, 3) := by decide +kernel
theorem dX7_unwinds_25 : decode cX7_unwinds 25 = .ok (.aload_n 0, 1) := by decide +kernel
theorem dX7_unwinds_26 : decode cX7_unwinds 26 = .ok (.dup, 1) := by decide +kernel
theorem dX7_unwinds_27 : decode cX7_unwinds 27 = .ok (.getfield 129, 3) := by decide +kernel
theorem dX7_unwinds_30 : decode cX7_unwinds 30 = .ok (.iconst 1, 1) := by decide +kernel
theorem dX7_unwinds_31 : decode cX7_unwinds 31 = .ok (.isub, 1) := by decide +kernel
theorem dX7_unwinds_32 : decode cX7_unwinds 32 = .ok (.putfield 129, 3) := by decide +kernel
theorem dX7_unwinds_35 : decode cX7_unwinds 35 = .ok (.aload_n 0, 1) := by decide +kernel
theorem dX7_unwinds_36 : decode cX7_unwinds 36 = .ok (.getfield 53, 3) := by decide +kernel
theorem dX7_unwinds_39 : decode cX7_unwinds 39 = .ok (.aload_n 0, 1) := by decide +kernel
theorem dX7_unwinds_40 : decode cX7_unwinds 40 = .ok (.getfield 129, 3) := by decide +kernel
theorem dX7_unwinds_43 : decode cX7_unwinds 43 = .ok (.iaload, 1) := by decide +kernel
theorem dX7_unwinds_44 : decode cX7_unwinds 44 = .ok (.istore_n 2, 1) := by decide +kernel
theorem dX7_unwinds_45 : decode cX7_unwinds 45 = .ok (.aload_n 0, 1) := by decide +kernel
theorem dX7_unwinds_46 : decode cX7_unwinds 46 = .ok (.dup, 1) := by decide +kernel
theorem dX7_unwinds_47 : decode cX7_unwinds 47 = .ok (.getfield 136, 3) := by decide +kernel
theorem dX7_unwinds_50 : decode cX7_unwinds 50 = .ok (.iload_n 2, 1) := by decide +kernel
theorem dX7_unwinds_51 : decode cX7_unwinds 51 = .ok (.bipush 13, 2) := by decide +kernel
theorem dX7_unwinds_53 : decode cX7_unwinds 53 = .ok (.if_icmp .eq 9, 3) := by decide +kernel
theorem dX7_unwinds_56 : decode cX7_unwinds 56 = .ok (.iload_n 2, 1) := by decide +kernel
theorem dX7_unwinds_57 : decode cX7_unwinds 57 = .ok (.bipush 19, 2) := by decide +kernel
theorem dX7_unwinds_59 : decode cX7_unwinds 59 = .ok (.if_icmp .ne 7, 3) := by decide +kernel
theorem dX7_unwinds_62 : decode cX7_unwinds 62 = .ok (.iconst 1, 1) := by decide +kernel
theorem dX7_unwinds_63 : decode cX7_unwinds 63 = .ok (.goto 4, 3) := by decide +kernel
theorem dX7_unwinds_66 : decode cX7_unwinds 66 = .ok (.iconst 0, 1) := by decide +kernel
theorem dX7_unwinds_67 : decode cX7_unwinds 67 = .ok (.isub, 1) := by decide +kernel
theorem dX7_unwinds_68 : decode cX7_unwinds 68 = .ok (.putfield 136, 3) := by decide +kernel
theorem dX7_unwinds_71 : decode cX7_unwinds 71 = .ok (.aload_n 0, 1) := by decide +kernel
theorem dX7_unwinds_72 : decode cX7_unwinds 72 = .ok (.iload_n 2, 1) := by decide +kernel
theorem dX7_unwinds_73 : decode cX7_unwinds 73 = .ok (.invokevirtual 139, 3) := by decide +kernel
theorem dX7_unwinds_76 : decode cX7_unwinds 76 = .ok (.goto (-76), 3) := by decide +kernel
theorem dX7_unwinds_79 : decode cX7_unwinds 79 = .ok (.return_, 1) := by decide +kernel
theorem dX7_holds_0 : decode cX7_holds 0 = .ok (.aload_n 0, 1) := by decide +kernel
theorem dX7_holds_1 : decode cX7_holds 1 = .ok (.getfield 53, 3) := by decide +kernel
theorem dX7_holds_4 : decode cX7_holds 4 = .ok (.aload_n 0, 1) := by decide +kernel
theorem dX7_holds_5 : decode cX7_holds 5 = .ok (.getfield 129, 3) := by decide +kernel
theorem dX7_holds_8 : decode cX7_holds 8 = .ok (.iload_n 1, 1) := by decide +kernel
theorem dX7_holds_9 : decode cX7_holds 9 = .ok (.iastore, 1) := by decide +kernel
theorem dX7_holds_10 : decode cX7_holds 10 = .ok (.aload_n 0, 1) := by decide +kernel
theorem dX7_holds_11 : decode cX7_holds 11 = .ok (.dup, 1) := by decide +kernel
theorem dX7_holds_12 : decode cX7_holds 12 = .ok (.getfield 129, 3) := by decide +kernel
theorem dX7_holds_15 : decode cX7_holds 15 = .ok (.iconst 1, 1) := by decide +kernel
theorem dX7_holds_16 : decode cX7_holds 16 = .ok (.iadd, 1) := by decide +kernel
theorem dX7_holds_17 : decode cX7_holds 17 = .ok (.putfield 129, 3) := by decide +kernel
theorem dX7_holds_20 : decode cX7_holds 20 = .ok (.return_, 1) := by decide +kernel
set_option maxRecDepth 20000 in
theorem ggX7_opensOne_X7_holds : GoodIn wsX7_opensOne wsX7_holds := goodIn_q _ [6] [7, 8, 9, 10, 11, 12, 13, 14, 15, 16, 17, 18, 19, 20, 21, 22, 23, 24, 25, 26, 27, 28, 29, 30, 31, 32, 33, 34, 35, 36, 37, 38, 39, 40, 41, 42, 43, 44, 45, 46, 47, 48, 49, 50, 51] rfl (by decide +kernel) (by decide +kernel)
set_option maxRecDepth 20000 in
theorem gX7_opensOne_X7_holds : GoodIn wsX7_opensOne (wsV RX7 143 RX7 yX7_holds wsX7_holds) := goodIn_app (goodIn_of _ (by decide +kernel)) ggX7_opensOne_X7_holds
theorem dX7_opensOne_0 : decode cX7_opensOne 0 = .ok (.aload_n 0, 1) := by decide +kernel
theorem dX7_opensOne_1 : decode cX7_opensOne 1 = .ok (.getfield 136, 3) := by decide +kernel
theorem dX7_opensOne_4 : decode cX7_opensOne 4 = .ok (.iconst 5, 1) := by decide +kernel
theorem dX7_opensOne_5 : decode cX7_opensOne 5 = .ok (.if_icmp .ne 5, 3) := by decide +kernel
theorem dX7_opensOne_8 : decode cX7_opensOne 8 = .ok (.iconst 0, 1) := by decide +kernel
theorem dX7_opensOne_9 : decode cX7_opensOne 9 = .ok (.ireturn, 1) := by decide +kernel
theorem dX7_opensOne_10 : decode cX7_opensOne 10 = .ok (.aload_n 0, 1) := by decide +kernel
theorem dX7_opensOne_11 : decode cX7_opensOne 11 = .ok (.dup, 1) := by decide +kernel
theorem dX7_opensOne_12 : decode cX7_opensOne 12 = .ok (.getfield 136, 3) := by decide +kernel
theorem dX7_opensOne_15 : decode cX7_opensOne 15 = .ok (.iconst 1, 1) := by decide +kernel
theorem dX7_opensOne_16 : decode cX7_opensOne 16 = .ok (.iadd, 1) := by decide +kernel
theorem dX7_opensOne_17 : decode cX7_opensOne 17 = .ok (.putfield 136, 3) := by decide +kernel
theorem dX7_opensOne_20 : decode cX7_opensOne 20 = .ok (.aload_n 0, 1) := by decide +kernel
theorem dX7_opensOne_21 : decode cX7_opensOne 21 = .ok (.iload_n 1, 1) := by decide +kernel
theorem dX7_opensOne_22 : decode cX7_opensOne 22 = .ok (.invokevirtual 143, 3) := by decide +kernel
theorem dX7_opensOne_25 : decode cX7_opensOne 25 = .ok (.iconst 1, 1) := by decide +kernel
theorem dX7_opensOne_26 : decode cX7_opensOne 26 = .ok (.ireturn, 1) := by decide +kernel
set_option maxRecDepth 20000 in
theorem ggX7_between_X7_rank : GoodIn wsX7_between wsX7_rank := goodIn_q _ [6] [] rfl (by decide +kernel) (by decide +kernel)
set_option maxRecDepth 20000 in
theorem gX7_between_X7_rank : GoodIn wsX7_between (va_wsS RX7 132 yX7_rank wsX7_rank) := goodIn_app (goodIn_of _ (by decide +kernel)) ggX7_between_X7_rank
set_option maxRecDepth 20000 in
theorem ggX7_between_X7_unwinds : GoodIn wsX7_between wsX7_unwinds := goodIn_q _ [10, 6, 15] [1, 2, 11, 3, 4, 5, 12, 13, 14, 16, 17, 18, 23, 24, 25, 26, 27, 28, 29, 30, 31, 32, 33, 34, 35, 36, 37, 38, 39, 40, 41, 42, 43, 44, 45, 46, 47, 48, 49, 50, 51, 52, 53, 54, 55, 56, 57, 58, 59, 60, 61, 62, 63, 64, 65] rfl (by decide +kernel) (by decide +kernel)
set_option maxRecDepth 20000 in
theorem gX7_between_X7_unwinds : GoodIn wsX7_between (wsV RX7 146 RX7 yX7_unwinds wsX7_unwinds) := goodIn_app (goodIn_of _ (by decide +kernel)) ggX7_between_X7_unwinds
set_option maxRecDepth 20000 in
theorem ggX7_between_X7_holds : GoodIn wsX7_between wsX7_holds := goodIn_q _ [22] [2, 1, 23, 24, 25, 26, 27, 28, 29, 30, 31, 32, 33, 34, 35, 36, 37, 38, 39, 40, 41, 42, 43, 44, 45, 46, 47, 48, 49, 50, 51, 52, 53, 54, 55, 56, 57, 58, 59, 60, 61, 62, 63, 64, 65] rfl (by decide +kernel) (by decide +kernel)
set_option maxRecDepth 20000 in
theorem gX7_between_X7_holds : GoodIn wsX7_between (wsV RX7 143 RX7 yX7_holds wsX7_holds) := goodIn_app (goodIn_of _ (by decide +kernel)) ggX7_between_X7_holds
theorem dX7_between_0 : decode cX7_between 0 = .ok (.aload_n 0, 1) := by decide +kernel
theorem dX7_between_1 : decode cX7_between 1 = .ok (.iload_n 1, 1) := by decide +kernel
theorem dX7_between_2 : decode cX7_between 2 = .ok (.invokestatic 132, 3) := by decide +kernel
theorem dX7_between_5 : decode cX7_between 5 = .ok (.iconst 4, 1) := by decide +kernel
theorem dX7_between_6 : decode cX7_between 6 = .ok (.if_icmp .ne 7, 3) := by decide +kernel
theorem dX7_between_9 : decode cX7_between 9 = .ok (.iconst 5, 1) := by decide +kernel
theorem dX7_between_10 : decode cX7_between 10 = .ok (.goto 7, 3) := by decide +kernel
theorem dX7_between_13 : decode cX7_between 13 = .ok (.iload_n 1, 1) := by decide +kernel
theorem dX7_between_14 : decode cX7_between 14 = .ok (.invokestatic 132, 3) := by decide +kernel
theorem dX7_between_17 : decode cX7_between 17 = .ok (.invokevirtual 146, 3) := by decide +kernel
theorem dX7_between_20 : decode cX7_between 20 = .ok (.iload_n 1, 1) := by decide +kernel
theorem dX7_between_21 : decode cX7_between 21 = .ok (.invokestatic 132, 3) := by decide +kernel
theorem dX7_between_24 : decode cX7_between 24 = .ok (.iconst 4, 1) := by decide +kernel
theorem dX7_between_25 : decode cX7_between 25 = .ok (.if_icmp .ne 30, 3) := by decide +kernel
theorem dX7_between_28 : decode cX7_between 28 = .ok (.aload_n 0, 1) := by decide +kernel
theorem dX7_between_29 : decode cX7_between 29 = .ok (.getfield 129, 3) := by decide +kernel
theorem dX7_between_32 : decode cX7_between 32 = .ok (.ifCond .le 23, 3) := by decide +kernel
theorem dX7_between_35 : decode cX7_between 35 = .ok (.aload_n 0, 1) := by decide +kernel
theorem dX7_between_36 : decode cX7_between 36 = .ok (.getfield 53, 3) := by decide +kernel
theorem dX7_between_39 : decode cX7_between 39 = .ok (.aload_n 0, 1) := by decide +kernel
theorem dX7_between_40 : decode cX7_between 40 = .ok (.getfield 129, 3) := by decide +kernel
theorem dX7_between_43 : decode cX7_between 43 = .ok (.iconst 1, 1) := by decide +kernel
theorem dX7_between_44 : decode cX7_between 44 = .ok (.isub, 1) := by decide +kernel
theorem dX7_between_45 : decode cX7_between 45 = .ok (.iaload, 1) := by decide +kernel
theorem dX7_between_46 : decode cX7_between 46 = .ok (.invokestatic 132, 3) := by decide +kernel
theorem dX7_between_49 : decode cX7_between 49 = .ok (.iconst 4, 1) := by decide +kernel
theorem dX7_between_50 : decode cX7_between 50 = .ok (.if_icmp .ne 5, 3) := by decide +kernel
theorem dX7_between_53 : decode cX7_between 53 = .ok (.iconst 0, 1) := by decide +kernel
theorem dX7_between_54 : decode cX7_between 54 = .ok (.ireturn, 1) := by decide +kernel
theorem dX7_between_55 : decode cX7_between 55 = .ok (.aload_n 0, 1) := by decide +kernel
theorem dX7_between_56 : decode cX7_between 56 = .ok (.iload_n 1, 1) := by decide +kernel
theorem dX7_between_57 : decode cX7_between 57 = .ok (.invokevirtual 143, 3) := by decide +kernel
theorem dX7_between_60 : decode cX7_between 60 = .ok (.iconst 1, 1) := by decide +kernel
theorem dX7_between_61 : decode cX7_between 61 = .ok (.ireturn, 1) := by decide +kernel
theorem dX7_signOf_0 : decode cX7_signOf 0 = .ok (.aload_n 0, 1) := by decide +kernel
theorem dX7_signOf_1 : decode cX7_signOf 1 = .ok (.getfield 116, 3) := by decide +kernel
theorem dX7_signOf_4 : decode cX7_signOf 4 = .ok (.iconst 4, 1) := by decide +kernel
theorem dX7_signOf_5 : decode cX7_signOf 5 = .ok (.if_icmp .ne 8, 3) := by decide +kernel
theorem dX7_signOf_8 : decode cX7_signOf 8 = .ok (.bipush 11, 2) := by decide +kernel
theorem dX7_signOf_10 : decode cX7_signOf 10 = .ok (.goto 87, 3) := by decide +kernel
theorem dX7_signOf_13 : decode cX7_signOf 13 = .ok (.aload_n 0, 1) := by decide +kernel
theorem dX7_signOf_14 : decode cX7_signOf 14 = .ok (.getfield 116, 3) := by decide +kernel
theorem dX7_signOf_17 : decode cX7_signOf 17 = .ok (.iconst 5, 1) := by decide +kernel
theorem dX7_signOf_18 : decode cX7_signOf 18 = .ok (.if_icmp .ne 8, 3) := by decide +kernel
theorem dX7_signOf_21 : decode cX7_signOf 21 = .ok (.bipush 12, 2) := by decide +kernel
theorem dX7_signOf_23 : decode cX7_signOf 23 = .ok (.goto 74, 3) := by decide +kernel
theorem dX7_signOf_26 : decode cX7_signOf 26 = .ok (.aload_n 0, 1) := by decide +kernel
theorem dX7_signOf_27 : decode cX7_signOf 27 = .ok (.getfield 116, 3) := by decide +kernel
theorem dX7_signOf_30 : decode cX7_signOf 30 = .ok (.bipush 60, 2) := by decide +kernel
theorem dX7_signOf_32 : decode cX7_signOf 32 = .ok (.if_icmp .ne 8, 3) := by decide +kernel
theorem dX7_signOf_35 : decode cX7_signOf 35 = .ok (.bipush 14, 2) := by decide +kernel
theorem dX7_signOf_37 : decode cX7_signOf 37 = .ok (.goto 60, 3) := by decide +kernel
theorem dX7_signOf_40 : decode cX7_signOf 40 = .ok (.aload_n 0, 1) := by decide +kernel
theorem dX7_signOf_41 : decode cX7_signOf 41 = .ok (.getfield 116, 3) := by decide +kernel
theorem dX7_signOf_44 : decode cX7_signOf 44 = .ok (.bipush 61, 2) := by decide +kernel
theorem dX7_signOf_46 : decode cX7_signOf 46 = .ok (.if_icmp .ne 8, 3) := by decide +kernel
theorem dX7_signOf_49 : decode cX7_signOf 49 = .ok (.bipush 15, 2) := by decide +kernel
theorem dX7_signOf_51 : decode cX7_signOf 51 = .ok (.goto 46, 3) := by decide +kernel
theorem dX7_signOf_54 : decode cX7_signOf 54 = .ok (.aload_n 0, 1) := by decide +kernel
theorem dX7_signOf_55 : decode cX7_signOf 55 = .ok (.getfield 116, 3) := by decide +kernel
theorem dX7_signOf_58 : decode cX7_signOf 58 = .ok (.bipush 43, 2) := by decide +kernel
theorem dX7_signOf_60 : decode cX7_signOf 60 = .ok (.if_icmp .ne 8, 3) := by decide +kernel
theorem dX7_signOf_63 : decode cX7_signOf 63 = .ok (.bipush 16, 2) := by decide +kernel
theorem dX7_signOf_65 : decode cX7_signOf 65 = .ok (.goto 32, 3) := by decide +kernel
theorem dX7_signOf_68 : decode cX7_signOf 68 = .ok (.aload_n 0, 1) := by decide +kernel
theorem dX7_signOf_69 : decode cX7_signOf 69 = .ok (.getfield 116, 3) := by decide +kernel
theorem dX7_signOf_72 : decode cX7_signOf 72 = .ok (.bipush 45, 2) := by decide +kernel
theorem dX7_signOf_74 : decode cX7_signOf 74 = .ok (.if_icmp .ne 8, 3) := by decide +kernel
theorem dX7_signOf_77 : decode cX7_signOf 77 = .ok (.bipush 17, 2) := by decide +kernel
theorem dX7_signOf_79 : decode cX7_signOf 79 = .ok (.goto 18, 3) := by decide +kernel
theorem dX7_signOf_82 : decode cX7_signOf 82 = .ok (.aload_n 0, 1) := by decide +kernel
theorem dX7_signOf_83 : decode cX7_signOf 83 = .ok (.getfield 116, 3) := by decide +kernel
theorem dX7_signOf_86 : decode cX7_signOf 86 = .ok (.bipush 42, 2) := by decide +kernel
theorem dX7_signOf_88 : decode cX7_signOf 88 = .ok (.if_icmp .ne 8, 3) := by decide +kernel
theorem dX7_signOf_91 : decode cX7_signOf 91 = .ok (.bipush 18, 2) := by decide +kernel
theorem dX7_signOf_93 : decode cX7_signOf 93 = .ok (.goto 4, 3) := by decide +kernel
theorem dX7_signOf_96 : decode cX7_signOf 96 = .ok (.iconst (-1), 1) := by decide +kernel
theorem dX7_signOf_97 : decode cX7_signOf 97 = .ok (.ireturn, 1) := by decide +kernel
set_option maxRecDepth 20000 in
theorem ggX7_eRead_X7_next : GoodIn wsX7_eRead wsX7_next := goodIn_q _ [10, 17, 21] [11, 12, 13, 14, 3, 5, 15, 16, 9, 18, 19, 20, 22, 54, 55, 56, 57, 58, 59, 60, 61, 62, 63, 64, 65, 66, 67, 68, 69, 70, 71, 72, 73, 74, 75, 76, 77, 78, 79, 80, 81, 82, 83, 84, 85, 86, 87, 88, 89, 90, 91, 92, 93, 94, 95, 96] rfl (by decide +kernel) (by decide +kernel)
set_option maxRecDepth 20000 in
theorem gX7_eRead_X7_next : GoodIn wsX7_eRead (wsV RX7 149 RX7 yX7_next wsX7_next) := goodIn_app (goodIn_of _ (by decide +kernel)) ggX7_eRead_X7_next
set_option maxRecDepth 20000 in
theorem ggX7_eRead_X7_puts : GoodIn wsX7_eRead wsX7_puts := goodIn_q _ [26] [27, 28, 29, 54, 55, 56, 57, 58, 59, 60, 61, 62, 63, 64, 65, 66, 67, 68, 69, 70, 71, 72, 73, 74, 75, 76, 77, 78, 79, 80, 81, 82, 83, 84, 85, 86, 87, 88, 89, 90, 91, 92, 93, 94, 95, 96] rfl (by decide +kernel) (by decide +kernel)
set_option maxRecDepth 20000 in
theorem gX7_eRead_X7_puts : GoodIn wsX7_eRead (wsV RX7 139 RX7 yX7_puts wsX7_puts) := goodIn_app (goodIn_of _ (by decide +kernel)) ggX7_eRead_X7_puts
set_option maxRecDepth 20000 in
theorem ggX7_eRead_X7_unwinds : GoodIn wsX7_eRead wsX7_unwinds := goodIn_q _ [33, 37, 26] [1, 34, 2, 35, 36, 9, 23, 24, 25, 27, 28, 29, 54, 55, 56, 57, 58, 59, 60, 61, 62, 63, 64, 65, 66, 67, 68, 69, 70, 71, 72, 73, 74, 75, 76, 77, 78, 79, 80, 81, 82, 83, 84, 85, 86, 87, 88, 89, 90, 91, 92, 93, 94, 95, 96] rfl (by decide +kernel) (by decide +kernel)
set_option maxRecDepth 20000 in
theorem gX7_eRead_X7_unwinds : GoodIn wsX7_eRead (wsV RX7 146 RX7 yX7_unwinds wsX7_unwinds) := goodIn_app (goodIn_of _ (by decide +kernel)) ggX7_eRead_X7_unwinds
set_option maxRecDepth 20000 in
theorem ggX7_eRead_X7_opensOne : GoodIn wsX7_eRead wsX7_opensOne := goodIn_q _ [41, 45] [2, 42, 43, 44, 9, 34, 1, 54, 55, 56, 57, 58, 59, 60, 61, 62, 63, 64, 65, 66, 67, 68, 69, 70, 71, 72, 73, 74, 75, 76, 77, 78, 79, 80, 81, 82, 83, 84, 85, 86, 87, 88, 89, 90, 91, 92, 93, 94, 95, 96] rfl (by decide +kernel) (by decide +kernel)
set_option maxRecDepth 20000 in
theorem gX7_eRead_X7_opensOne : GoodIn wsX7_eRead (wsV RX7 153 RX7 yX7_opensOne wsX7_opensOne) := goodIn_app (goodIn_of _ (by decide +kernel)) ggX7_eRead_X7_opensOne
set_option maxRecDepth 20000 in
theorem ggX7_eRead_X7_signOf : GoodIn wsX7_eRead wsX7_signOf := goodIn_q _ [49] [3, 54, 55, 56, 57, 58, 59, 60, 61, 62, 63, 64, 65, 66, 67, 68, 69, 70, 71, 72, 73, 74, 75, 76, 77, 78, 79, 80, 81, 82, 83, 84, 85, 86, 87, 88, 89, 90, 91, 92, 93, 94, 95, 96] rfl (by decide +kernel) (by decide +kernel)
set_option maxRecDepth 20000 in
theorem gX7_eRead_X7_signOf : GoodIn wsX7_eRead (wsV RX7 156 RX7 yX7_signOf wsX7_signOf) := goodIn_app (goodIn_of _ (by decide +kernel)) ggX7_eRead_X7_signOf
set_option maxRecDepth 20000 in
theorem ggX7_eRead_X7_between : GoodIn wsX7_eRead wsX7_between := goodIn_q _ [53, 37, 33, 26, 45] [1, 34, 35, 36, 9, 30, 31, 32, 2, 23, 24, 25, 27, 28, 29, 42, 43, 44, 54, 55, 56, 57, 58, 59, 60, 61, 62, 63, 64, 65, 66, 67, 68, 69, 70, 71, 72, 73, 74, 75, 76, 77, 78, 79, 80, 81, 82, 83, 84, 85, 86, 87, 88, 89, 90, 91, 92, 93, 94, 95, 96] rfl (by decide +kernel) (by decide +kernel)
set_option maxRecDepth 20000 in
theorem gX7_eRead_X7_between : GoodIn wsX7_eRead (wsV RX7 159 RX7 yX7_between wsX7_between) := goodIn_app (goodIn_of _ (by decide +kernel)) ggX7_eRead_X7_between
theorem dX7_eRead_0 : decode cX7_eRead 0 = .ok (.aload_n 0, 1) := by decide +kernel
theorem dX7_eRead_1 : decode cX7_eRead 1 = .ok (.iconst 0, 1) := by decide +kernel
theorem dX7_eRead_2 : decode cX7_eRead 2 = .ok (.putfield 129, 3) := by decide +kernel
theorem dX7_eRead_5 : decode cX7_eRead 5 = .ok (.aload_n 0, 1) := by decide +kernel
theorem dX7_eRead_6 : decode cX7_eRead 6 = .ok (.iconst 0, 1) := by decide +kernel
theorem dX7_eRead_7 : decode cX7_eRead 7 = .ok (.putfield 136, 3) := by decide +kernel
theorem dX7_eRead_10 : decode cX7_eRead 10 = .ok (.iconst 1, 1) := by decide +kernel
theorem dX7_eRead_11 : decode cX7_eRead 11 = .ok (.istore_n 1, 1) := by decide +kernel
theorem dX7_eRead_12 : decode cX7_eRead 12 = .ok (.iconst 1, 1) := by decide +kernel
theorem dX7_eRead_13 : decode cX7_eRead 13 = .ok (.istore_n 2, 1) := by decide +kernel
theorem dX7_eRead_14 : decode cX7_eRead 14 = .ok (.aload_n 0, 1) := by decide +kernel
theorem dX7_eRead_15 : decode cX7_eRead 15 = .ok (.invokevirtual 149, 3) := by decide +kernel
theorem dX7_eRead_18 : decode cX7_eRead 18 = .ok (.iload_n 1, 1) := by decide +kernel
theorem dX7_eRead_19 : decode cX7_eRead 19 = .ok (.ifCond .eq 131, 3) := by decide +kernel
theorem dX7_eRead_22 : decode cX7_eRead 22 = .ok (.aload_n 0, 1) := by decide +kernel
theorem dX7_eRead_23 : decode cX7_eRead 23 = .ok (.getfield 116, 3) := by decide +kernel
theorem dX7_eRead_26 : decode cX7_eRead 26 = .ok (.iconst 1, 1) := by decide +kernel
theorem dX7_eRead_27 : decode cX7_eRead 27 = .ok (.if_icmp .eq 11, 3) := by decide +kernel
theorem dX7_eRead_30 : decode cX7_eRead 30 = .ok (.aload_n 0, 1) := by decide +kernel
theorem dX7_eRead_31 : decode cX7_eRead 31 = .ok (.getfield 116, 3) := by decide +kernel
theorem dX7_eRead_34 : decode cX7_eRead 34 = .ok (.iconst 2, 1) := by decide +kernel
theorem dX7_eRead_35 : decode cX7_eRead 35 = .ok (.if_icmp .ne 40, 3) := by decide +kernel
theorem dX7_eRead_38 : decode cX7_eRead 38 = .ok (.aload_n 0, 1) := by decide +kernel
theorem dX7_eRead_39 : decode cX7_eRead 39 = .ok (.aload_n 0, 1) := by decide +kernel
theorem dX7_eRead_40 : decode cX7_eRead 40 = .ok (.getfield 116, 3) := by decide +kernel
theorem dX7_eRead_43 : decode cX7_eRead 43 = .ok (.iconst 1, 1) := by decide +kernel
theorem dX7_eRead_44 : decode cX7_eRead 44 = .ok (.if_icmp .ne 13, 3) := by decide +kernel
theorem dX7_eRead_47 : decode cX7_eRead 47 = .ok (.ldc 152, 2) := by decide +kernel
theorem dX7_eRead_49 : decode cX7_eRead 49 = .ok (.aload_n 0, 1) := by decide +kernel
theorem dX7_eRead_50 : decode cX7_eRead 50 = .ok (.getfield 119, 3) := by decide +kernel
theorem dX7_eRead_53 : decode cX7_eRead 53 = .ok (.iadd, 1) := by decide +kernel
theorem dX7_eRead_54 : decode cX7_eRead 54 = .ok (.goto 7, 3) := by decide +kernel
theorem dX7_eRead_57 : decode cX7_eRead 57 = .ok (.aload_n 0, 1) := by decide +kernel
theorem dX7_eRead_58 : decode cX7_eRead 58 = .ok (.getfield 119, 3) := by decide +kernel
theorem dX7_eRead_61 : decode cX7_eRead 61 = .ok (.invokevirtual 139, 3) := by decide +kernel
theorem dX7_eRead_64 : decode cX7_eRead 64 = .ok (.aload_n 0, 1) := by decide +kernel
theorem dX7_eRead_65 : decode cX7_eRead 65 = .ok (.bipush 7, 2) := by decide +kernel
theorem dX7_eRead_67 : decode cX7_eRead 67 = .ok (.invokevirtual 146, 3) := by decide +kernel
theorem dX7_eRead_70 : decode cX7_eRead 70 = .ok (.iconst 0, 1) := by decide +kernel
theorem dX7_eRead_71 : decode cX7_eRead 71 = .ok (.istore_n 1, 1) := by decide +kernel
theorem dX7_eRead_72 : decode cX7_eRead 72 = .ok (.goto (-58), 3) := by decide +kernel
theorem dX7_eRead_75 : decode cX7_eRead 75 = .ok (.aload_n 0, 1) := by decide +kernel
theorem dX7_eRead_76 : decode cX7_eRead 76 = .ok (.getfield 116, 3) := by decide +kernel
theorem dX7_eRead_79 : decode cX7_eRead 79 = .ok (.bipush 6, 2) := by decide +kernel
theorem dX7_eRead_81 : decode cX7_eRead 81 = .ok (.if_icmp .ne 18, 3) := by decide +kernel
theorem dX7_eRead_84 : decode cX7_eRead 84 = .ok (.iload_n 2, 1) := by decide +kernel
theorem dX7_eRead_85 : decode cX7_eRead 85 = .ok (.ifCond .eq 14, 3) := by decide +kernel
theorem dX7_eRead_88 : decode cX7_eRead 88 = .ok (.aload_n 0, 1) := by decide +kernel
theorem dX7_eRead_89 : decode cX7_eRead 89 = .ok (.bipush 13, 2) := by decide +kernel
theorem dX7_eRead_91 : decode cX7_eRead 91 = .ok (.invokevirtual 153, 3) := by decide +kernel
theorem dX7_eRead_94 : decode cX7_eRead 94 = .ok (.ifCond .ne (-80), 3) := by decide +kernel
theorem dX7_eRead_97 : decode cX7_eRead 97 = .ok (.iconst 0, 1) := by decide +kernel
theorem dX7_eRead_98 : decode cX7_eRead 98 = .ok (.ireturn, 1) := by decide +kernel
theorem dX7_eRead_99 : decode cX7_eRead 99 = .ok (.aload_n 0, 1) := by decide +kernel
theorem dX7_eRead_100 : decode cX7_eRead 100 = .ok (.getfield 116, 3) := by decide +kernel
theorem dX7_eRead_103 : decode cX7_eRead 103 = .ok (.bipush 45, 2) := by decide +kernel
theorem dX7_eRead_105 : decode cX7_eRead 105 = .ok (.if_icmp .ne 19, 3) := by decide +kernel
theorem dX7_eRead_108 : decode cX7_eRead 108 = .ok (.aload_n 0, 1) := by decide +kernel
theorem dX7_eRead_109 : decode cX7_eRead 109 = .ok (.bipush 19, 2) := by decide +kernel
theorem dX7_eRead_111 : decode cX7_eRead 111 = .ok (.invokevirtual 153, 3) := by decide +kernel
theorem dX7_eRead_114 : decode cX7_eRead 114 = .ok (.ifCond .ne 5, 3) := by decide +kernel
theorem dX7_eRead_117 : decode cX7_eRead 117 = .ok (.iconst 0, 1) := by decide +kernel
theorem dX7_eRead_118 : decode cX7_eRead 118 = .ok (.ireturn, 1) := by decide +kernel
theorem dX7_eRead_119 : decode cX7_eRead 119 = .ok (.iconst 0, 1) := by decide +kernel
theorem dX7_eRead_120 : decode cX7_eRead 120 = .ok (.istore_n 2, 1) := by decide +kernel
theorem dX7_eRead_121 : decode cX7_eRead 121 = .ok (.goto (-107), 3) := by decide +kernel
theorem dX7_eRead_124 : decode cX7_eRead 124 = .ok (.aload_n 0, 1) := by decide +kernel
theorem dX7_eRead_125 : decode cX7_eRead 125 = .ok (.getfield 116, 3) := by decide +kernel
theorem dX7_eRead_128 : decode cX7_eRead 128 = .ok (.bipush 40, 2) := by decide +kernel
theorem dX7_eRead_130 : decode cX7_eRead 130 = .ok (.if_icmp .ne 18, 3) := by decide +kernel
theorem dX7_eRead_133 : decode cX7_eRead 133 = .ok (.aload_n 0, 1) := by decide +kernel
theorem dX7_eRead_134 : decode cX7_eRead 134 = .ok (.iconst 0, 1) := by decide +kernel
theorem dX7_eRead_135 : decode cX7_eRead 135 = .ok (.invokevirtual 153, 3) := by decide +kernel
theorem dX7_eRead_138 : decode cX7_eRead 138 = .ok (.ifCond .ne 5, 3) := by decide +kernel
theorem dX7_eRead_141 : decode cX7_eRead 141 = .ok (.iconst 0, 1) := by decide +kernel
theorem dX7_eRead_142 : decode cX7_eRead 142 = .ok (.ireturn, 1) := by decide +kernel
theorem dX7_eRead_143 : decode cX7_eRead 143 = .ok (.iconst 1, 1) := by decide +kernel
theorem dX7_eRead_144 : decode cX7_eRead 144 = .ok (.istore_n 2, 1) := by decide +kernel
theorem dX7_eRead_145 : decode cX7_eRead 145 = .ok (.goto (-131), 3) := by decide +kernel
theorem dX7_eRead_148 : decode cX7_eRead 148 = .ok (.iconst 0, 1) := by decide +kernel
theorem dX7_eRead_149 : decode cX7_eRead 149 = .ok (.ireturn, 1) := by decide +kernel
theorem dX7_eRead_150 : decode cX7_eRead 150 = .ok (.aload_n 0, 1) := by decide +kernel
theorem dX7_eRead_151 : decode cX7_eRead 151 = .ok (.getfield 116, 3) := by decide +kernel
theorem dX7_eRead_154 : decode cX7_eRead 154 = .ok (.bipush 59, 2) := by decide +kernel
theorem dX7_eRead_156 : decode cX7_eRead 156 = .ok (.if_icmp .ne 21, 3) := by decide +kernel
theorem dX7_eRead_159 : decode cX7_eRead 159 = .ok (.aload_n 0, 1) := by decide +kernel
theorem dX7_eRead_160 : decode cX7_eRead 160 = .ok (.iconst 1, 1) := by decide +kernel
theorem dX7_eRead_161 : decode cX7_eRead 161 = .ok (.invokevirtual 146, 3) := by decide +kernel
theorem dX7_eRead_164 : decode cX7_eRead 164 = .ok (.aload_n 0, 1) := by decide +kernel
theorem dX7_eRead_165 : decode cX7_eRead 165 = .ok (.getfield 129, 3) := by decide +kernel
theorem dX7_eRead_168 : decode cX7_eRead 168 = .ok (.ifCond .ne 7, 3) := by decide +kernel
theorem dX7_eRead_171 : decode cX7_eRead 171 = .ok (.iconst 1, 1) := by decide +kernel
theorem dX7_eRead_172 : decode cX7_eRead 172 = .ok (.goto 4, 3) := by decide +kernel
theorem dX7_eRead_175 : decode cX7_eRead 175 = .ok (.iconst 0, 1) := by decide +kernel
theorem dX7_eRead_176 : decode cX7_eRead 176 = .ok (.ireturn, 1) := by decide +kernel
theorem dX7_eRead_177 : decode cX7_eRead 177 = .ok (.aload_n 0, 1) := by decide +kernel
theorem dX7_eRead_178 : decode cX7_eRead 178 = .ok (.getfield 116, 3) := by decide +kernel
theorem dX7_eRead_181 : decode cX7_eRead 181 = .ok (.bipush 41, 2) := by decide +kernel
theorem dX7_eRead_183 : decode cX7_eRead 183 = .ok (.if_icmp .ne 46, 3) := by decide +kernel
theorem dX7_eRead_186 : decode cX7_eRead 186 = .ok (.aload_n 0, 1) := by decide +kernel
theorem dX7_eRead_187 : decode cX7_eRead 187 = .ok (.iconst 1, 1) := by decide +kernel
theorem dX7_eRead_188 : decode cX7_eRead 188 = .ok (.invokevirtual 146, 3) := by decide +kernel
theorem dX7_eRead_191 : decode cX7_eRead 191 = .ok (.aload_n 0, 1) := by decide +kernel
theorem dX7_eRead_192 : decode cX7_eRead 192 = .ok (.getfield 129, 3) := by decide +kernel
theorem dX7_eRead_195 : decode cX7_eRead 195 = .ok (.ifCond .ne 5, 3) := by decide +kernel
theorem dX7_eRead_198 : decode cX7_eRead 198 = .ok (.iconst 0, 1) := by decide +kernel
theorem dX7_eRead_199 : decode cX7_eRead 199 = .ok (.ireturn, 1) := by decide +kernel
theorem dX7_eRead_200 : decode cX7_eRead 200 = .ok (.aload_n 0, 1) := by decide +kernel
theorem dX7_eRead_201 : decode cX7_eRead 201 = .ok (.dup, 1) := by decide +kernel
theorem dX7_eRead_202 : decode cX7_eRead 202 = .ok (.getfield 129, 3) := by decide +kernel
theorem dX7_eRead_205 : decode cX7_eRead 205 = .ok (.iconst 1, 1) := by decide +kernel
theorem dX7_eRead_206 : decode cX7_eRead 206 = .ok (.isub, 1) := by decide +kernel
theorem dX7_eRead_207 : decode cX7_eRead 207 = .ok (.putfield 129, 3) := by decide +kernel
theorem dX7_eRead_210 : decode cX7_eRead 210 = .ok (.aload_n 0, 1) := by decide +kernel
theorem dX7_eRead_211 : decode cX7_eRead 211 = .ok (.dup, 1) := by decide +kernel
theorem dX7_eRead_212 : decode cX7_eRead 212 = .ok (.getfield 136, 3) := by decide +kernel
theorem dX7_eRead_215 : decode cX7_eRead 215 = .ok (.iconst 1, 1) := by decide +kernel
theorem dX7_eRead_216 : decode cX7_eRead 216 = .ok (.isub, 1) := by decide +kernel
theorem dX7_eRead_217 : decode cX7_eRead 217 = .ok (.putfield 136, 3) := by decide +kernel
theorem dX7_eRead_220 : decode cX7_eRead 220 = .ok (.aload_n 0, 1) := by decide +kernel
theorem dX7_eRead_221 : decode cX7_eRead 221 = .ok (.bipush 7, 2) := by decide +kernel
theorem dX7_eRead_223 : decode cX7_eRead 223 = .ok (.invokevirtual 146, 3) := by decide +kernel
theorem dX7_eRead_226 : decode cX7_eRead 226 = .ok (.goto (-212), 3) := by decide +kernel
theorem dX7_eRead_229 : decode cX7_eRead 229 = .ok (.aload_n 0, 1) := by decide +kernel
theorem dX7_eRead_230 : decode cX7_eRead 230 = .ok (.invokevirtual 156, 3) := by decide +kernel
theorem dX7_eRead_233 : decode cX7_eRead 233 = .ok (.istore_n 3, 1) := by decide +kernel
theorem dX7_eRead_234 : decode cX7_eRead 234 = .ok (.iload_n 3, 1) := by decide +kernel
theorem dX7_eRead_235 : decode cX7_eRead 235 = .ok (.iconst (-1), 1) := by decide +kernel
theorem dX7_eRead_236 : decode cX7_eRead 236 = .ok (.if_icmp .eq 11, 3) := by decide +kernel
theorem dX7_eRead_239 : decode cX7_eRead 239 = .ok (.aload_n 0, 1) := by decide +kernel
theorem dX7_eRead_240 : decode cX7_eRead 240 = .ok (.iload_n 3, 1) := by decide +kernel
theorem dX7_eRead_241 : decode cX7_eRead 241 = .ok (.invokevirtual 159, 3) := by decide +kernel
theorem dX7_eRead_244 : decode cX7_eRead 244 = .ok (.ifCond .ne 5, 3) := by decide +kernel
theorem dX7_eRead_247 : decode cX7_eRead 247 = .ok (.iconst 0, 1) := by decide +kernel
theorem dX7_eRead_248 : decode cX7_eRead 248 = .ok (.ireturn, 1) := by decide +kernel
theorem dX7_eRead_249 : decode cX7_eRead 249 = .ok (.iconst 1, 1) := by decide +kernel
theorem dX7_eRead_250 : decode cX7_eRead 250 = .ok (.istore_n 1, 1) := by decide +kernel
theorem dX7_eRead_251 : decode cX7_eRead 251 = .ok (.iload_n 3, 1) := by decide +kernel
theorem dX7_eRead_252 : decode cX7_eRead 252 = .ok (.bipush 12, 2) := by decide +kernel
theorem dX7_eRead_254 : decode cX7_eRead 254 = .ok (.if_icmp .gt 7, 3) := by decide +kernel
theorem dX7_eRead_257 : decode cX7_eRead 257 = .ok (.iconst 1, 1) := by decide +kernel
theorem dX7_eRead_258 : decode cX7_eRead 258 = .ok (.goto 4, 3) := by decide +kernel
theorem dX7_eRead_261 : decode cX7_eRead 261 = .ok (.iconst 0, 1) := by decide +kernel
theorem dX7_eRead_262 : decode cX7_eRead 262 = .ok (.istore_n 2, 1) := by decide +kernel
theorem dX7_eRead_263 : decode cX7_eRead 263 = .ok (.goto (-249), 3) := by decide +kernel
set_option maxRecDepth 20000 in
theorem ggX7_text_X7_next : GoodIn wsX7_text wsX7_next := goodIn_q _ [13, 17, 21] [2, 7, 14, 8, 4, 5, 15, 16, 12, 18, 19, 20, 22, 59, 60, 61, 62, 63, 64, 65, 66, 67, 68, 69, 70, 71, 72, 73, 74, 75, 76, 77, 78, 79, 80, 81, 82, 83, 84, 85, 86, 87, 88, 89, 90, 91, 92, 93, 94, 95, 96, 97, 98, 99, 100, 101] rfl (by decide +kernel) (by decide +kernel)
set_option maxRecDepth 20000 in
theorem gX7_text_X7_next : GoodIn wsX7_text (wsV RX7 149 RX7 yX7_next wsX7_next) := goodIn_app (goodIn_of _ (by decide +kernel)) ggX7_text_X7_next
set_option maxRecDepth 20000 in
theorem ggX7_text_X7_eRead : GoodIn wsX7_text wsX7_eRead := goodIn_q _ [26, 13, 17, 21, 33, 38, 42, 46, 50, 54, 58] [27, 28, 4, 29, 5, 9, 10, 11, 12, 2, 7, 14, 8, 15, 16, 18, 19, 20, 22, 30, 31, 32, 34, 1, 3, 35, 36, 37, 39, 40, 41, 43, 44, 45, 47, 48, 49, 51, 52, 53, 55, 56, 57, 59, 60, 61, 62, 63, 64, 65, 66, 67, 68, 69, 70, 71, 72, 73, 74, 75, 76, 77, 78, 79, 80, 81, 82, 83, 84, 85, 86, 87, 88, 89, 90, 91, 92, 93, 94, 95, 96, 97, 98, 99, 100, 101] rfl (by decide +kernel) (by decide +kernel)
set_option maxRecDepth 20000 in
theorem gX7_text_X7_eRead : GoodIn wsX7_text (wsV RX7 162 RX7 yX7_eRead wsX7_eRead) := goodIn_app (goodIn_of _ (by decide +kernel)) ggX7_text_X7_eRead
theorem dX7_text_0 : decode cX7_text 0 = .ok (.aload_n 0, 1) := by decide +kernel
theorem dX7_text_1 : decode cX7_text 1 = .ok (.getfield 100, 3) := by decide +kernel
theorem dX7_text_4 : decode cX7_text 4 = .ok (.bipush 6, 2) := by decide +kernel
theorem dX7_text_6 : decode cX7_text 6 = .ok (.if_icmp .ne 6, 3) := by decide +kernel
theorem dX7_text_9 : decode cX7_text 9 = .ok (.bipush (-4), 2) := by decide +kernel
theorem dX7_text_11 : decode cX7_text 11 = .ok (.ireturn, 1) := by decide +kernel
theorem dX7_text_12 : decode cX7_text 12 = .ok (.aload_n 0, 1) := by decide +kernel
theorem dX7_text_13 : decode cX7_text 13 = .ok (.iconst 0, 1) := by decide +kernel
theorem dX7_text_14 : decode cX7_text 14 = .ok (.putfield 110, 3) := by decide +kernel
theorem dX7_text_17 : decode cX7_text 17 = .ok (.aload_n 0, 1) := by decide +kernel
theorem dX7_text_18 : decode cX7_text 18 = .ok (.iconst 0, 1) := by decide +kernel
theorem dX7_text_19 : decode cX7_text 19 = .ok (.putfield 126, 3) := by decide +kernel
theorem dX7_text_22 : decode cX7_text 22 = .ok (.iconst 1, 1) := by decide +kernel
theorem dX7_text_23 : decode cX7_text 23 = .ok (.istore_n 1, 1) := by decide +kernel
theorem dX7_text_24 : decode cX7_text 24 = .ok (.iconst 0, 1) := by decide +kernel
theorem dX7_text_25 : decode cX7_text 25 = .ok (.istore_n 2, 1) := by decide +kernel
theorem dX7_text_26 : decode cX7_text 26 = .ok (.iload_n 2, 1) := by decide +kernel
theorem dX7_text_27 : decode cX7_text 27 = .ok (.iconst 3, 1) := by decide +kernel
theorem dX7_text_28 : decode cX7_text 28 = .ok (.if_icmp .ge 73, 3) := by decide +kernel
theorem dX7_text_31 : decode cX7_text 31 = .ok (.iload_n 1, 1) := by decide +kernel
theorem dX7_text_32 : decode cX7_text 32 = .ok (.ifCond .eq 69, 3) := by decide +kernel
theorem dX7_text_35 : decode cX7_text 35 = .ok (.aload_n 0, 1) := by decide +kernel
theorem dX7_text_36 : decode cX7_text 36 = .ok (.invokevirtual 149, 3) := by decide +kernel
theorem dX7_text_39 : decode cX7_text 39 = .ok (.aload_n 0, 1) := by decide +kernel
theorem dX7_text_40 : decode cX7_text 40 = .ok (.getfield 116, 3) := by decide +kernel
theorem dX7_text_43 : decode cX7_text 43 = .ok (.iconst 3, 1) := by decide +kernel
theorem dX7_text_44 : decode cX7_text 44 = .ok (.if_icmp .ne 15, 3) := by decide +kernel
theorem dX7_text_47 : decode cX7_text 47 = .ok (.aload_n 0, 1) := by decide +kernel
theorem dX7_text_48 : decode cX7_text 48 = .ok (.getfield 119, 3) := by decide +kernel
theorem dX7_text_51 : decode cX7_text 51 = .ok (.iload_n 2, 1) := by decide +kernel
theorem dX7_text_52 : decode cX7_text 52 = .ok (.if_icmp .ne 7, 3) := by decide +kernel
theorem dX7_text_55 : decode cX7_text 55 = .ok (.iconst 1, 1) := by decide +kernel
theorem dX7_text_56 : decode cX7_text 56 = .ok (.goto 4, 3) := by decide +kernel
theorem dX7_text_59 : decode cX7_text 59 = .ok (.iconst 0, 1) := by decide +kernel
theorem dX7_text_60 : decode cX7_text 60 = .ok (.istore_n 1, 1) := by decide +kernel
theorem dX7_text_61 : decode cX7_text 61 = .ok (.aload_n 0, 1) := by decide +kernel
theorem dX7_text_62 : decode cX7_text 62 = .ok (.getfield 29, 3) := by decide +kernel
theorem dX7_text_65 : decode cX7_text 65 = .ok (.iconst 4, 1) := by decide +kernel
theorem dX7_text_66 : decode cX7_text 66 = .ok (.aload_n 0, 1) := by decide +kernel
theorem dX7_text_67 : decode cX7_text 67 = .ok (.getfield 100, 3) := by decide +kernel
theorem dX7_text_70 : decode cX7_text 70 = .ok (.imul, 1) := by decide +kernel
theorem dX7_text_71 : decode cX7_text 71 = .ok (.iload_n 2, 1) := by decide +kernel
theorem dX7_text_72 : decode cX7_text 72 = .ok (.iadd, 1) := by decide +kernel
theorem dX7_text_73 : decode cX7_text 73 = .ok (.aload_n 0, 1) := by decide +kernel
theorem dX7_text_74 : decode cX7_text 74 = .ok (.getfield 126, 3) := by decide +kernel
theorem dX7_text_77 : decode cX7_text 77 = .ok (.iastore, 1) := by decide +kernel
theorem dX7_text_78 : decode cX7_text 78 = .ok (.iload_n 1, 1) := by decide +kernel
theorem dX7_text_79 : decode cX7_text 79 = .ok (.ifCond .eq 14, 3) := by decide +kernel
theorem dX7_text_82 : decode cX7_text 82 = .ok (.aload_n 0, 1) := by decide +kernel
theorem dX7_text_83 : decode cX7_text 83 = .ok (.invokevirtual 162, 3) := by decide +kernel
theorem dX7_text_86 : decode cX7_text 86 = .ok (.ifCond .eq 7, 3) := by decide +kernel
theorem dX7_text_89 : decode cX7_text 89 = .ok (.iconst 1, 1) := by decide +kernel
theorem dX7_text_90 : decode cX7_text 90 = .ok (.goto 4, 3) := by decide +kernel
theorem dX7_text_93 : decode cX7_text 93 = .ok (.iconst 0, 1) := by decide +kernel
theorem dX7_text_94 : decode cX7_text 94 = .ok (.istore_n 1, 1) := by decide +kernel
theorem dX7_text_95 : decode cX7_text 95 = .ok (.iinc 2 1, 3) := by decide +kernel
theorem dX7_text_98 : decode cX7_text 98 = .ok (.goto (-72), 3) := by decide +kernel
theorem dX7_text_101 : decode cX7_text 101 = .ok (.iload_n 1, 1) := by decide +kernel
theorem dX7_text_102 : decode cX7_text 102 = .ok (.ifCond .eq 20, 3) := by decide +kernel
theorem dX7_text_105 : decode cX7_text 105 = .ok (.aload_n 0, 1) := by decide +kernel
theorem dX7_text_106 : decode cX7_text 106 = .ok (.invokevirtual 149, 3) := by decide +kernel
theorem dX7_text_109 : decode cX7_text 109 = .ok (.aload_n 0, 1) := by decide +kernel
theorem dX7_text_110 : decode cX7_text 110 = .ok (.getfield 116, 3) := by decide +kernel
theorem dX7_text_113 : decode cX7_text 113 = .ok (.ifCond .ne 7, 3) := by decide +kernel
theorem dX7_text_116 : decode cX7_text 116 = .ok (.iconst 1, 1) := by decide +kernel
theorem dX7_text_117 : decode cX7_text 117 = .ok (.goto 4, 3) := by decide +kernel
theorem dX7_text_120 : decode cX7_text 120 = .ok (.iconst 0, 1) := by decide +kernel
theorem dX7_text_121 : decode cX7_text 121 = .ok (.istore_n 1, 1) := by decide +kernel
theorem dX7_text_122 : decode cX7_text 122 = .ok (.aload_n 0, 1) := by decide +kernel
theorem dX7_text_123 : decode cX7_text 123 = .ok (.getfield 29, 3) := by decide +kernel
theorem dX7_text_126 : decode cX7_text 126 = .ok (.iconst 4, 1) := by decide +kernel
theorem dX7_text_127 : decode cX7_text 127 = .ok (.aload_n 0, 1) := by decide +kernel
theorem dX7_text_128 : decode cX7_text 128 = .ok (.getfield 100, 3) := by decide +kernel
theorem dX7_text_131 : decode cX7_text 131 = .ok (.imul, 1) := by decide +kernel
theorem dX7_text_132 : decode cX7_text 132 = .ok (.iconst 3, 1) := by decide +kernel
theorem dX7_text_133 : decode cX7_text 133 = .ok (.iadd, 1) := by decide +kernel
theorem dX7_text_134 : decode cX7_text 134 = .ok (.aload_n 0, 1) := by decide +kernel
theorem dX7_text_135 : decode cX7_text 135 = .ok (.getfield 126, 3) := by decide +kernel
theorem dX7_text_138 : decode cX7_text 138 = .ok (.iastore, 1) := by decide +kernel
theorem dX7_text_139 : decode cX7_text 139 = .ok (.aload_n 0, 1) := by decide +kernel
theorem dX7_text_140 : decode cX7_text 140 = .ok (.iconst 0, 1) := by decide +kernel
theorem dX7_text_141 : decode cX7_text 141 = .ok (.putfield 83, 3) := by decide +kernel
theorem dX7_text_144 : decode cX7_text 144 = .ok (.iload_n 1, 1) := by decide +kernel
theorem dX7_text_145 : decode cX7_text 145 = .ok (.ifCond .ne 11, 3) := by decide +kernel
theorem dX7_text_148 : decode cX7_text 148 = .ok (.bipush (-100), 2) := by decide +kernel
theorem dX7_text_150 : decode cX7_text 150 = .ok (.aload_n 0, 1) := by decide +kernel
theorem dX7_text_151 : decode cX7_text 151 = .ok (.getfield 113, 3) := by decide +kernel
theorem dX7_text_154 : decode cX7_text 154 = .ok (.isub, 1) := by decide +kernel
theorem dX7_text_155 : decode cX7_text 155 = .ok (.ireturn, 1) := by decide +kernel
theorem dX7_text_156 : decode cX7_text 156 = .ok (.aload_n 0, 1) := by decide +kernel
theorem dX7_text_157 : decode cX7_text 157 = .ok (.dup, 1) := by decide +kernel
theorem dX7_text_158 : decode cX7_text 158 = .ok (.getfield 100, 3) := by decide +kernel
theorem dX7_text_161 : decode cX7_text 161 = .ok (.iconst 1, 1) := by decide +kernel
theorem dX7_text_162 : decode cX7_text 162 = .ok (.iadd, 1) := by decide +kernel
theorem dX7_text_163 : decode cX7_text 163 = .ok (.putfield 100, 3) := by decide +kernel
theorem dX7_text_166 : decode cX7_text 166 = .ok (.aload_n 0, 1) := by decide +kernel
theorem dX7_text_167 : decode cX7_text 167 = .ok (.getfield 100, 3) := by decide +kernel
theorem dX7_text_170 : decode cX7_text 170 = .ok (.iconst 1, 1) := by decide +kernel
theorem dX7_text_171 : decode cX7_text 171 = .ok (.isub, 1) := by decide +kernel
theorem dX7_text_172 : decode cX7_text 172 = .ok (.ireturn, 1) := by decide +kernel
theorem dX7_two_0 : decode cX7_two 0 = .ok (.iload_n 0, 1) := by decide +kernel
theorem dX7_two_1 : decode cX7_two 1 = .ok (.tableswitch 101 11 17 #[43, 57, 101, 71, 82, 93, 97], 43) := by decide +kernel
theorem dX7_two_44 : decode cX7_two 44 = .ok (.iload_n 1, 1) := by decide +kernel
theorem dX7_two_45 : decode cX7_two 45 = .ok (.ifCond .ne 7, 3) := by decide +kernel
theorem dX7_two_48 : decode cX7_two 48 = .ok (.iload_n 2, 1) := by decide +kernel
theorem dX7_two_49 : decode cX7_two 49 = .ok (.ifCond .eq 7, 3) := by decide +kernel
theorem dX7_two_52 : decode cX7_two 52 = .ok (.iconst 1, 1) := by decide +kernel
theorem dX7_two_53 : decode cX7_two 53 = .ok (.goto 4, 3) := by decide +kernel
theorem dX7_two_56 : decode cX7_two 56 = .ok (.iconst 0, 1) := by decide +kernel
theorem dX7_two_57 : decode cX7_two 57 = .ok (.ireturn, 1) := by decide +kernel
theorem dX7_two_58 : decode cX7_two 58 = .ok (.iload_n 1, 1) := by decide +kernel
theorem dX7_two_59 : decode cX7_two 59 = .ok (.ifCond .eq 11, 3) := by decide +kernel
theorem dX7_two_62 : decode cX7_two 62 = .ok (.iload_n 2, 1) := by decide +kernel
theorem dX7_two_63 : decode cX7_two 63 = .ok (.ifCond .eq 7, 3) := by decide +kernel
theorem dX7_two_66 : decode cX7_two 66 = .ok (.iconst 1, 1) := by decide +kernel
theorem dX7_two_67 : decode cX7_two 67 = .ok (.goto 4, 3) := by decide +kernel
theorem dX7_two_70 : decode cX7_two 70 = .ok (.iconst 0, 1) := by decide +kernel
theorem dX7_two_71 : decode cX7_two 71 = .ok (.ireturn, 1) := by decide +kernel
theorem dX7_two_72 : decode cX7_two 72 = .ok (.iload_n 1, 1) := by decide +kernel
theorem dX7_two_73 : decode cX7_two 73 = .ok (.iload_n 2, 1) := by decide +kernel
theorem dX7_two_74 : decode cX7_two 74 = .ok (.if_icmp .ge 7, 3) := by decide +kernel
theorem dX7_two_77 : decode cX7_two 77 = .ok (.iconst 1, 1) := by decide +kernel
theorem dX7_two_78 : decode cX7_two 78 = .ok (.goto 4, 3) := by decide +kernel
theorem dX7_two_81 : decode cX7_two 81 = .ok (.iconst 0, 1) := by decide +kernel
theorem dX7_two_82 : decode cX7_two 82 = .ok (.ireturn, 1) := by decide +kernel
theorem dX7_two_83 : decode cX7_two 83 = .ok (.iload_n 1, 1) := by decide +kernel
theorem dX7_two_84 : decode cX7_two 84 = .ok (.iload_n 2, 1) := by decide +kernel
theorem dX7_two_85 : decode cX7_two 85 = .ok (.if_icmp .ne 7, 3) := by decide +kernel
theorem dX7_two_88 : decode cX7_two 88 = .ok (.iconst 1, 1) := by decide +kernel
theorem dX7_two_89 : decode cX7_two 89 = .ok (.goto 4, 3) := by decide +kernel
theorem dX7_two_92 : decode cX7_two 92 = .ok (.iconst 0, 1) := by decide +kernel
theorem dX7_two_93 : decode cX7_two 93 = .ok (.ireturn, 1) := by decide +kernel
theorem dX7_two_94 : decode cX7_two 94 = .ok (.iload_n 1, 1) := by decide +kernel
theorem dX7_two_95 : decode cX7_two 95 = .ok (.iload_n 2, 1) := by decide +kernel
theorem dX7_two_96 : decode cX7_two 96 = .ok (.iadd, 1) := by decide +kernel
theorem dX7_two_97 : decode cX7_two 97 = .ok (.ireturn, 1) := by decide +kernel
theorem dX7_two_98 : decode cX7_two 98 = .ok (.iload_n 1, 1) := by decide +kernel
theorem dX7_two_99 : decode cX7_two 99 = .ok (.iload_n 2, 1) := by decide +kernel
theorem dX7_two_100 : decode cX7_two 100 = .ok (.isub, 1) := by decide +kernel
theorem dX7_two_101 : decode cX7_two 101 = .ok (.ireturn, 1) := by decide +kernel
theorem dX7_two_102 : decode cX7_two 102 = .ok (.iload_n 1, 1) := by decide +kernel
theorem dX7_two_103 : decode cX7_two 103 = .ok (.iload_n 2, 1) := by decide +kernel
theorem dX7_two_104 : decode cX7_two 104 = .ok (.imul, 1) := by decide +kernel
theorem dX7_two_105 : decode cX7_two 105 = .ok (.ireturn, 1) := by decide +kernel
set_option maxRecDepth 20000 in
theorem ggX7_says_X7_two : GoodIn wsX7_says wsX7_two := goodIn_q _ [10] [] rfl (by decide +kernel) (by decide +kernel)
set_option maxRecDepth 20000 in
theorem gX7_says_X7_two : GoodIn wsX7_says (va_wsS RX7 166 yX7_two wsX7_two) := goodIn_app (goodIn_of _ (by decide +kernel)) ggX7_says_X7_two
theorem dX7_says_0 : decode cX7_says 0 = .ok (.iconst 0, 1) := by decide +kernel
theorem dX7_says_1 : decode cX7_says 1 = .ok (.istore_n 2, 1) := by decide +kernel
theorem dX7_says_2 : decode cX7_says 2 = .ok (.aload_n 0, 1) := by decide +kernel
theorem dX7_says_3 : decode cX7_says 3 = .ok (.getfield 29, 3) := by decide +kernel
theorem dX7_says_6 : decode cX7_says 6 = .ok (.iconst 4, 1) := by decide +kernel
theorem dX7_says_7 : decode cX7_says 7 = .ok (.aload_n 0, 1) := by decide +kernel
theorem dX7_says_8 : decode cX7_says 8 = .ok (.getfield 103, 3) := by decide +kernel
theorem dX7_says_11 : decode cX7_says 11 = .ok (.imul, 1) := by decide +kernel
theorem dX7_says_12 : decode cX7_says 12 = .ok (.iload_n 1, 1) := by decide +kernel
theorem dX7_says_13 : decode cX7_says 13 = .ok (.iadd, 1) := by decide +kernel
theorem dX7_says_14 : decode cX7_says 14 = .ok (.iaload, 1) := by decide +kernel
theorem dX7_says_15 : decode cX7_says 15 = .ok (.istore_n 3, 1) := by decide +kernel
theorem dX7_says_16 : decode cX7_says 16 = .ok (.iload_n 3, 1) := by decide +kernel
theorem dX7_says_17 : decode cX7_says 17 = .ok (.aload_n 0, 1) := by decide +kernel
theorem dX7_says_18 : decode cX7_says 18 = .ok (.getfield 29, 3) := by decide +kernel
theorem dX7_says_21 : decode cX7_says 21 = .ok (.iconst 4, 1) := by decide +kernel
theorem dX7_says_22 : decode cX7_says 22 = .ok (.aload_n 0, 1) := by decide +kernel
theorem dX7_says_23 : decode cX7_says 23 = .ok (.getfield 103, 3) := by decide +kernel
theorem dX7_says_26 : decode cX7_says 26 = .ok (.imul, 1) := by decide +kernel
theorem dX7_says_27 : decode cX7_says 27 = .ok (.iload_n 1, 1) := by decide +kernel
theorem dX7_says_28 : decode cX7_says 28 = .ok (.iadd, 1) := by decide +kernel
theorem dX7_says_29 : decode cX7_says 29 = .ok (.iconst 1, 1) := by decide +kernel
theorem dX7_says_30 : decode cX7_says 30 = .ok (.iadd, 1) := by decide +kernel
theorem dX7_says_31 : decode cX7_says 31 = .ok (.iaload, 1) := by decide +kernel
theorem dX7_says_32 : decode cX7_says 32 = .ok (.if_icmp .ge 165, 3) := by decide +kernel
theorem dX7_says_35 : decode cX7_says 35 = .ok (.aload_n 0, 1) := by decide +kernel
theorem dX7_says_36 : decode cX7_says 36 = .ok (.getfield 26, 3) := by decide +kernel
theorem dX7_says_39 : decode cX7_says 39 = .ok (.sipush 200, 3) := by decide +kernel
theorem dX7_says_42 : decode cX7_says 42 = .ok (.aload_n 0, 1) := by decide +kernel
theorem dX7_says_43 : decode cX7_says 43 = .ok (.getfield 103, 3) := by decide +kernel
theorem dX7_says_46 : decode cX7_says 46 = .ok (.imul, 1) := by decide +kernel
theorem dX7_says_47 : decode cX7_says 47 = .ok (.iload_n 3, 1) := by decide +kernel
theorem dX7_says_48 : decode cX7_says 48 = .ok (.iadd, 1) := by decide +kernel
theorem dX7_says_49 : decode cX7_says 49 = .ok (.iaload, 1) := by decide +kernel
theorem dX7_says_50 : decode cX7_says 50 = .ok (.istore 4, 2) := by decide +kernel
theorem dX7_says_52 : decode cX7_says 52 = .ok (.iload 4, 2) := by decide +kernel
theorem dX7_says_54 : decode cX7_says 54 = .ok (.ldc 152, 2) := by decide +kernel
theorem dX7_says_56 : decode cX7_says 56 = .ok (.if_icmp .ge 10, 3) := by decide +kernel
theorem dX7_says_59 : decode cX7_says 59 = .ok (.iload 4, 2) := by decide +kernel
theorem dX7_says_61 : decode cX7_says 61 = .ok (.bipush 11, 2) := by decide +kernel
theorem dX7_says_63 : decode cX7_says 63 = .ok (.if_icmp .ge 37, 3) := by decide +kernel
theorem dX7_says_66 : decode cX7_says 66 = .ok (.aload_n 0, 1) := by decide +kernel
theorem dX7_says_67 : decode cX7_says 67 = .ok (.getfield 56, 3) := by decide +kernel
theorem dX7_says_70 : decode cX7_says 70 = .ok (.iload_n 2, 1) := by decide +kernel
theorem dX7_says_71 : decode cX7_says 71 = .ok (.iload 4, 2) := by decide +kernel
theorem dX7_says_73 : decode cX7_says 73 = .ok (.bipush 11, 2) := by decide +kernel
theorem dX7_says_75 : decode cX7_says 75 = .ok (.if_icmp .ge 13, 3) := by decide +kernel
theorem dX7_says_78 : decode cX7_says 78 = .ok (.aload_n 0, 1) := by decide +kernel
theorem dX7_says_79 : decode cX7_says 79 = .ok (.getfield 59, 3) := by decide +kernel
theorem dX7_says_82 : decode cX7_says 82 = .ok (.iload 4, 2) := by decide +kernel
theorem dX7_says_84 : decode cX7_says 84 = .ok (.iaload, 1) := by decide +kernel
theorem dX7_says_85 : decode cX7_says 85 = .ok (.goto 8, 3) := by decide +kernel
theorem dX7_says_88 : decode cX7_says 88 = .ok (.iload 4, 2) := by decide +kernel
theorem dX7_says_90 : decode cX7_says 90 = .ok (.ldc 152, 2) := by decide +kernel
theorem dX7_says_92 : decode cX7_says 92 = .ok (.isub, 1) := by decide +kernel
theorem dX7_says_93 : decode cX7_says 93 = .ok (.iastore, 1) := by decide +kernel
theorem dX7_says_94 : decode cX7_says 94 = .ok (.iinc 2 1, 3) := by decide +kernel
theorem dX7_says_97 : decode cX7_says 97 = .ok (.goto 94, 3) := by decide +kernel
theorem dX7_says_100 : decode cX7_says 100 = .ok (.iload 4, 2) := by decide +kernel
theorem dX7_says_102 : decode cX7_says 102 = .ok (.bipush 13, 2) := by decide +kernel
theorem dX7_says_104 : decode cX7_says 104 = .ok (.if_icmp .ne 30, 3) := by decide +kernel
theorem dX7_says_107 : decode cX7_says 107 = .ok (.aload_n 0, 1) := by decide +kernel
theorem dX7_says_108 : decode cX7_says 108 = .ok (.getfield 56, 3) := by decide +kernel
theorem dX7_says_111 : decode cX7_says 111 = .ok (.iload_n 2, 1) := by decide +kernel
theorem dX7_says_112 : decode cX7_says 112 = .ok (.iconst 1, 1) := by decide +kernel
theorem dX7_says_113 : decode cX7_says 113 = .ok (.isub, 1) := by decide +kernel
theorem dX7_says_114 : decode cX7_says 114 = .ok (.aload_n 0, 1) := by decide +kernel
theorem dX7_says_115 : decode cX7_says 115 = .ok (.getfield 56, 3) := by decide +kernel
theorem dX7_says_118 : decode cX7_says 118 = .ok (.iload_n 2, 1) := by decide +kernel
theorem dX7_says_119 : decode cX7_says 119 = .ok (.iconst 1, 1) := by decide +kernel
theorem dX7_says_120 : decode cX7_says 120 = .ok (.isub, 1) := by decide +kernel
theorem dX7_says_121 : decode cX7_says 121 = .ok (.iaload, 1) := by decide +kernel
theorem dX7_says_122 : decode cX7_says 122 = .ok (.ifCond .ne 7, 3) := by decide +kernel
theorem dX7_says_125 : decode cX7_says 125 = .ok (.iconst 1, 1) := by decide +kernel
theorem dX7_says_126 : decode cX7_says 126 = .ok (.goto 4, 3) := by decide +kernel
theorem dX7_says_129 : decode cX7_says 129 = .ok (.iconst 0, 1) := by decide +kernel
theorem dX7_says_130 : decode cX7_says 130 = .ok (.iastore, 1) := by decide +kernel
theorem dX7_says_131 : decode cX7_says 131 = .ok (.goto 60, 3) := by decide +kernel
theorem dX7_says_134 : decode cX7_says 134 = .ok (.iload 4, 2) := by decide +kernel
theorem dX7_says_136 : decode cX7_says 136 = .ok (.bipush 19, 2) := by decide +kernel
theorem dX7_says_138 : decode cX7_says 138 = .ok (.if_icmp .ne 23, 3) := by decide +kernel
theorem dX7_says_141 : decode cX7_says 141 = .ok (.aload_n 0, 1) := by decide +kernel
theorem dX7_says_142 : decode cX7_says 142 = .ok (.getfield 56, 3) := by decide +kernel
theorem dX7_says_145 : decode cX7_says 145 = .ok (.iload_n 2, 1) := by decide +kernel
theorem dX7_says_146 : decode cX7_says 146 = .ok (.iconst 1, 1) := by decide +kernel
theorem dX7_says_147 : decode cX7_says 147 = .ok (.isub, 1) := by decide +kernel
theorem dX7_says_148 : decode cX7_says 148 = .ok (.aload_n 0, 1) := by decide +kernel
theorem dX7_says_149 : decode cX7_says 149 = .ok (.getfield 56, 3) := by decide +kernel
theorem dX7_says_152 : decode cX7_says 152 = .ok (.iload_n 2, 1) := by decide +kernel
theorem dX7_says_153 : decode cX7_says 153 = .ok (.iconst 1, 1) := by decide +kernel
theorem dX7_says_154 : decode cX7_says 154 = .ok (.isub, 1) := by decide +kernel
theorem dX7_says_155 : decode cX7_says 155 = .ok (.iaload, 1) := by decide +kernel
theorem dX7_says_156 : decode cX7_says 156 = .ok (.ineg, 1) := by decide +kernel
theorem dX7_says_157 : decode cX7_says 157 = .ok (.iastore, 1) := by decide +kernel
theorem dX7_says_158 : decode cX7_says 158 = .ok (.goto 33, 3) := by decide +kernel
theorem dX7_says_161 : decode cX7_says 161 = .ok (.iinc 2 (-1), 3) := by decide +kernel
theorem dX7_says_164 : decode cX7_says 164 = .ok (.aload_n 0, 1) := by decide +kernel
theorem dX7_says_165 : decode cX7_says 165 = .ok (.getfield 56, 3) := by decide +kernel
theorem dX7_says_168 : decode cX7_says 168 = .ok (.iload_n 2, 1) := by decide +kernel
theorem dX7_says_169 : decode cX7_says 169 = .ok (.iconst 1, 1) := by decide +kernel
theorem dX7_says_170 : decode cX7_says 170 = .ok (.isub, 1) := by decide +kernel
theorem dX7_says_171 : decode cX7_says 171 = .ok (.iload 4, 2) := by decide +kernel
theorem dX7_says_173 : decode cX7_says 173 = .ok (.aload_n 0, 1) := by decide +kernel
theorem dX7_says_174 : decode cX7_says 174 = .ok (.getfield 56, 3) := by decide +kernel
theorem dX7_says_177 : decode cX7_says 177 = .ok (.iload_n 2, 1) := by decide +kernel
theorem dX7_says_178 : decode cX7_says 178 = .ok (.iconst 1, 1) := by decide +kernel
theorem dX7_says_179 : decode cX7_says 179 = .ok (.isub, 1) := by decide +kernel
theorem dX7_says_180 : decode cX7_says 180 = .ok (.iaload, 1) := by decide +kernel
theorem dX7_says_181 : decode cX7_says 181 = .ok (.aload_n 0, 1) := by decide +kernel
theorem dX7_says_182 : decode cX7_says 182 = .ok (.getfield 56, 3) := by decide +kernel
theorem dX7_says_185 : decode cX7_says 185 = .ok (.iload_n 2, 1) := by decide +kernel
theorem dX7_says_186 : decode cX7_says 186 = .ok (.iaload, 1) := by decide +kernel
theorem dX7_says_187 : decode cX7_says 187 = .ok (.invokestatic 166, 3) := by decide +kernel
theorem dX7_says_190 : decode cX7_says 190 = .ok (.iastore, 1) := by decide +kernel
theorem dX7_says_191 : decode cX7_says 191 = .ok (.iinc 3 1, 3) := by decide +kernel
theorem dX7_says_194 : decode cX7_says 194 = .ok (.goto (-178), 3) := by decide +kernel
theorem dX7_says_197 : decode cX7_says 197 = .ok (.aload_n 0, 1) := by decide +kernel
theorem dX7_says_198 : decode cX7_says 198 = .ok (.getfield 56, 3) := by decide +kernel
theorem dX7_says_201 : decode cX7_says 201 = .ok (.iconst 0, 1) := by decide +kernel
theorem dX7_says_202 : decode cX7_says 202 = .ok (.iaload, 1) := by decide +kernel
theorem dX7_says_203 : decode cX7_says 203 = .ok (.ireturn, 1) := by decide +kernel
set_option maxRecDepth 20000 in
theorem ggX7_force_X7_in : GoodIn wsX7_force wsX7_in := goodIn_q _ [6] [] rfl (by decide +kernel) (by decide +kernel)
set_option maxRecDepth 20000 in
theorem gX7_force_X7_in : GoodIn wsX7_force (va_wsS RX7 93 yX7_in wsX7_in) := goodIn_app (goodIn_of _ (by decide +kernel)) ggX7_force_X7_in
theorem dX7_force_0 : decode cX7_force 0 = .ok (.iload_n 1, 1) := by decide +kernel
theorem dX7_force_1 : decode cX7_force 1 = .ok (.iconst 0, 1) := by decide +kernel
theorem dX7_force_2 : decode cX7_force 2 = .ok (.aload_n 0, 1) := by decide +kernel
theorem dX7_force_3 : decode cX7_force 3 = .ok (.getfield 100, 3) := by decide +kernel
theorem dX7_force_6 : decode cX7_force 6 = .ok (.iconst 1, 1) := by decide +kernel
theorem dX7_force_7 : decode cX7_force 7 = .ok (.isub, 1) := by decide +kernel
theorem dX7_force_8 : decode cX7_force 8 = .ok (.invokestatic 93, 3) := by decide +kernel
theorem dX7_force_11 : decode cX7_force 11 = .ok (.ifCond .ne 6, 3) := by decide +kernel
theorem dX7_force_14 : decode cX7_force 14 = .ok (.bipush (-2), 2) := by decide +kernel
theorem dX7_force_16 : decode cX7_force 16 = .ok (.ireturn, 1) := by decide +kernel
theorem dX7_force_17 : decode cX7_force 17 = .ok (.aload_n 0, 1) := by decide +kernel
theorem dX7_force_18 : decode cX7_force 18 = .ok (.getfield 103, 3) := by decide +kernel
theorem dX7_force_21 : decode cX7_force 21 = .ok (.istore_n 2, 1) := by decide +kernel
theorem dX7_force_22 : decode cX7_force 22 = .ok (.aload_n 0, 1) := by decide +kernel
theorem dX7_force_23 : decode cX7_force 23 = .ok (.iload_n 1, 1) := by decide +kernel
theorem dX7_force_24 : decode cX7_force 24 = .ok (.putfield 103, 3) := by decide +kernel
theorem dX7_force_27 : decode cX7_force 27 = .ok (.iload_n 2, 1) := by decide +kernel
theorem dX7_force_28 : decode cX7_force 28 = .ok (.ireturn, 1) := by decide +kernel
set_option maxRecDepth 20000 in
theorem ggX7_asksOf_X7_says : GoodIn wsX7_asksOf wsX7_says := goodIn_q _ [8, 16] [9, 10, 11, 12, 13, 1, 14, 15, 7, 20, 21, 22, 23, 24, 25, 26, 27, 28, 29, 30, 31, 32, 33, 34, 35, 36, 37, 38, 39, 40, 41, 42, 43, 44, 45, 46, 47, 48, 49, 50, 51, 52, 53, 54, 55, 56, 57, 58, 59, 60, 61, 62] rfl (by decide +kernel) (by decide +kernel)
set_option maxRecDepth 20000 in
theorem gX7_asksOf_X7_says : GoodIn wsX7_asksOf (wsV RX7 170 RX7 yX7_says wsX7_says) := goodIn_app (goodIn_of _ (by decide +kernel)) ggX7_asksOf_X7_says
set_option maxRecDepth 20000 in
theorem ggX7_asksOf_X7_within : GoodIn wsX7_asksOf wsX7_within := goodIn_q _ [19] [] rfl (by decide +kernel) (by decide +kernel)
set_option maxRecDepth 20000 in
theorem gX7_asksOf_X7_within : GoodIn wsX7_asksOf (va_wsS RX7 173 yX7_within wsX7_within) := goodIn_app (goodIn_of _ (by decide +kernel)) ggX7_asksOf_X7_within
theorem dX7_asksOf_0 : decode cX7_asksOf 0 = .ok (.aload_n 0, 1) := by decide +kernel
theorem dX7_asksOf_1 : decode cX7_asksOf 1 = .ok (.getfield 59, 3) := by decide +kernel
theorem dX7_asksOf_4 : decode cX7_asksOf 4 = .ok (.iconst 0, 1) := by decide +kernel
theorem dX7_asksOf_5 : decode cX7_asksOf 5 = .ok (.iload_n 3, 1) := by decide +kernel
theorem dX7_asksOf_6 : decode cX7_asksOf 6 = .ok (.iastore, 1) := by decide +kernel
theorem dX7_asksOf_7 : decode cX7_asksOf 7 = .ok (.aload_n 0, 1) := by decide +kernel
theorem dX7_asksOf_8 : decode cX7_asksOf 8 = .ok (.getfield 59, 3) := by decide +kernel
theorem dX7_asksOf_11 : decode cX7_asksOf 11 = .ok (.iconst 1, 1) := by decide +kernel
theorem dX7_asksOf_12 : decode cX7_asksOf 12 = .ok (.iload 4, 2) := by decide +kernel
theorem dX7_asksOf_14 : decode cX7_asksOf 14 = .ok (.iastore, 1) := by decide +kernel
theorem dX7_asksOf_15 : decode cX7_asksOf 15 = .ok (.aload_n 0, 1) := by decide +kernel
theorem dX7_asksOf_16 : decode cX7_asksOf 16 = .ok (.getfield 59, 3) := by decide +kernel
theorem dX7_asksOf_19 : decode cX7_asksOf 19 = .ok (.iconst 2, 1) := by decide +kernel
theorem dX7_asksOf_20 : decode cX7_asksOf 20 = .ok (.iload 5, 2) := by decide +kernel
theorem dX7_asksOf_22 : decode cX7_asksOf 22 = .ok (.iastore, 1) := by decide +kernel
theorem dX7_asksOf_23 : decode cX7_asksOf 23 = .ok (.aload_n 0, 1) := by decide +kernel
theorem dX7_asksOf_24 : decode cX7_asksOf 24 = .ok (.getfield 59, 3) := by decide +kernel
theorem dX7_asksOf_27 : decode cX7_asksOf 27 = .ok (.iconst 3, 1) := by decide +kernel
theorem dX7_asksOf_28 : decode cX7_asksOf 28 = .ok (.iconst 0, 1) := by decide +kernel
theorem dX7_asksOf_29 : decode cX7_asksOf 29 = .ok (.iastore, 1) := by decide +kernel
theorem dX7_asksOf_30 : decode cX7_asksOf 30 = .ok (.aload_n 0, 1) := by decide +kernel
theorem dX7_asksOf_31 : decode cX7_asksOf 31 = .ok (.getfield 59, 3) := by decide +kernel
theorem dX7_asksOf_34 : decode cX7_asksOf 34 = .ok (.iconst 4, 1) := by decide +kernel
theorem dX7_asksOf_35 : decode cX7_asksOf 35 = .ok (.iconst 0, 1) := by decide +kernel
theorem dX7_asksOf_36 : decode cX7_asksOf 36 = .ok (.iastore, 1) := by decide +kernel
theorem dX7_asksOf_37 : decode cX7_asksOf 37 = .ok (.aload_n 0, 1) := by decide +kernel
theorem dX7_asksOf_38 : decode cX7_asksOf 38 = .ok (.getfield 59, 3) := by decide +kernel
theorem dX7_asksOf_41 : decode cX7_asksOf 41 = .ok (.iconst 5, 1) := by decide +kernel
theorem dX7_asksOf_42 : decode cX7_asksOf 42 = .ok (.iconst 0, 1) := by decide +kernel
theorem dX7_asksOf_43 : decode cX7_asksOf 43 = .ok (.iastore, 1) := by decide +kernel
theorem dX7_asksOf_44 : decode cX7_asksOf 44 = .ok (.iload_n 2, 1) := by decide +kernel
theorem dX7_asksOf_45 : decode cX7_asksOf 45 = .ok (.iconst (-1), 1) := by decide +kernel
theorem dX7_asksOf_46 : decode cX7_asksOf 46 = .ok (.if_icmp .eq 49, 3) := by decide +kernel
theorem dX7_asksOf_49 : decode cX7_asksOf 49 = .ok (.iload_n 1, 1) := by decide +kernel
theorem dX7_asksOf_50 : decode cX7_asksOf 50 = .ok (.ifCond .le 45, 3) := by decide +kernel
theorem dX7_asksOf_53 : decode cX7_asksOf 53 = .ok (.aload_n 0, 1) := by decide +kernel
theorem dX7_asksOf_54 : decode cX7_asksOf 54 = .ok (.getfield 59, 3) := by decide +kernel
theorem dX7_asksOf_57 : decode cX7_asksOf 57 = .ok (.iconst 3, 1) := by decide +kernel
theorem dX7_asksOf_58 : decode cX7_asksOf 58 = .ok (.aload_n 0, 1) := by decide +kernel
theorem dX7_asksOf_59 : decode cX7_asksOf 59 = .ok (.getfield 16, 3) := by decide +kernel
theorem dX7_asksOf_62 : decode cX7_asksOf 62 = .ok (.iconst 2, 1) := by decide +kernel
theorem dX7_asksOf_63 : decode cX7_asksOf 63 = .ok (.iload_n 2, 1) := by decide +kernel
theorem dX7_asksOf_64 : decode cX7_asksOf 64 = .ok (.imul, 1) := by decide +kernel
theorem dX7_asksOf_65 : decode cX7_asksOf 65 = .ok (.iaload, 1) := by decide +kernel
theorem dX7_asksOf_66 : decode cX7_asksOf 66 = .ok (.iastore, 1) := by decide +kernel
theorem dX7_asksOf_67 : decode cX7_asksOf 67 = .ok (.aload_n 0, 1) := by decide +kernel
theorem dX7_asksOf_68 : decode cX7_asksOf 68 = .ok (.getfield 59, 3) := by decide +kernel
theorem dX7_asksOf_71 : decode cX7_asksOf 71 = .ok (.iconst 4, 1) := by decide +kernel
theorem dX7_asksOf_72 : decode cX7_asksOf 72 = .ok (.aload_n 0, 1) := by decide +kernel
theorem dX7_asksOf_73 : decode cX7_asksOf 73 = .ok (.getfield 16, 3) := by decide +kernel
theorem dX7_asksOf_76 : decode cX7_asksOf 76 = .ok (.iconst 2, 1) := by decide +kernel
theorem dX7_asksOf_77 : decode cX7_asksOf 77 = .ok (.iload_n 2, 1) := by decide +kernel
theorem dX7_asksOf_78 : decode cX7_asksOf 78 = .ok (.imul, 1) := by decide +kernel
theorem dX7_asksOf_79 : decode cX7_asksOf 79 = .ok (.iconst 1, 1) := by decide +kernel
theorem dX7_asksOf_80 : decode cX7_asksOf 80 = .ok (.iadd, 1) := by decide +kernel
theorem dX7_asksOf_81 : decode cX7_asksOf 81 = .ok (.iaload, 1) := by decide +kernel
theorem dX7_asksOf_82 : decode cX7_asksOf 82 = .ok (.iastore, 1) := by decide +kernel
theorem dX7_asksOf_83 : decode cX7_asksOf 83 = .ok (.aload_n 0, 1) := by decide +kernel
theorem dX7_asksOf_84 : decode cX7_asksOf 84 = .ok (.getfield 59, 3) := by decide +kernel
theorem dX7_asksOf_87 : decode cX7_asksOf 87 = .ok (.iconst 5, 1) := by decide +kernel
theorem dX7_asksOf_88 : decode cX7_asksOf 88 = .ok (.aload_n 0, 1) := by decide +kernel
theorem dX7_asksOf_89 : decode cX7_asksOf 89 = .ok (.getfield 13, 3) := by decide +kernel
theorem dX7_asksOf_92 : decode cX7_asksOf 92 = .ok (.iload_n 2, 1) := by decide +kernel
theorem dX7_asksOf_93 : decode cX7_asksOf 93 = .ok (.iaload, 1) := by decide +kernel
theorem dX7_asksOf_94 : decode cX7_asksOf 94 = .ok (.iastore, 1) := by decide +kernel
theorem dX7_asksOf_95 : decode cX7_asksOf 95 = .ok (.aload_n 0, 1) := by decide +kernel
theorem dX7_asksOf_96 : decode cX7_asksOf 96 = .ok (.iload_n 1, 1) := by decide +kernel
theorem dX7_asksOf_97 : decode cX7_asksOf 97 = .ok (.invokevirtual 170, 3) := by decide +kernel
theorem dX7_asksOf_100 : decode cX7_asksOf 100 = .ok (.iconst 0, 1) := by decide +kernel
theorem dX7_asksOf_101 : decode cX7_asksOf 101 = .ok (.iload_n 1, 1) := by decide +kernel
theorem dX7_asksOf_102 : decode cX7_asksOf 102 = .ok (.iconst 1, 1) := by decide +kernel
theorem dX7_asksOf_103 : decode cX7_asksOf 103 = .ok (.if_icmp .ne 8, 3) := by decide +kernel
theorem dX7_asksOf_106 : decode cX7_asksOf 106 = .ok (.bipush 20, 2) := by decide +kernel
theorem dX7_asksOf_108 : decode cX7_asksOf 108 = .ok (.goto 5, 3) := by decide +kernel
theorem dX7_asksOf_111 : decode cX7_asksOf 111 = .ok (.bipush 99, 2) := by decide +kernel
theorem dX7_asksOf_113 : decode cX7_asksOf 113 = .ok (.invokestatic 173, 3) := by decide +kernel
theorem dX7_asksOf_116 : decode cX7_asksOf 116 = .ok (.ireturn, 1) := by decide +kernel
set_option maxRecDepth 20000 in
theorem ggX7_asks_X7_in : GoodIn wsX7_asks wsX7_in := goodIn_q _ [4] [] rfl (by decide +kernel) (by decide +kernel)
set_option maxRecDepth 20000 in
theorem gX7_asks_X7_in : GoodIn wsX7_asks (va_wsS RX7 93 yX7_in wsX7_in) := goodIn_app (goodIn_of _ (by decide +kernel)) ggX7_asks_X7_in
set_option maxRecDepth 20000 in
theorem ggX7_asks_X7_isOne : GoodIn wsX7_asks wsX7_isOne := goodIn_q _ [8, 4] [9, 1, 2, 3, 32, 33, 34, 35, 36, 37, 38, 39, 40, 41, 42, 43, 44, 45, 46, 47, 48, 49, 50, 51, 52, 53, 54, 55, 56, 57, 58, 59, 60, 61, 62, 63, 64, 65, 66, 67, 68, 69, 70, 71, 72, 73, 74] rfl (by decide +kernel) (by decide +kernel)
set_option maxRecDepth 20000 in
theorem gX7_asks_X7_isOne : GoodIn wsX7_asks (wsV RX7 176 RX7 yX7_isOne wsX7_isOne) := goodIn_app (goodIn_of _ (by decide +kernel)) ggX7_asks_X7_isOne
set_option maxRecDepth 20000 in
theorem ggX7_asks_X7_asksOf : GoodIn wsX7_asks wsX7_asksOf := goodIn_q _ [13, 20, 28, 31] [14, 15, 16, 17, 18, 19, 3, 21, 22, 23, 24, 25, 26, 27, 29, 30, 32, 33, 34, 35, 36, 37, 38, 39, 40, 41, 42, 43, 44, 45, 46, 47, 48, 49, 50, 51, 52, 53, 54, 55, 56, 57, 58, 59, 60, 61, 62, 63, 64, 65, 66, 67, 68, 69, 70, 71, 72, 73, 74] rfl (by decide +kernel) (by decide +kernel)
set_option maxRecDepth 20000 in
theorem gX7_asks_X7_asksOf : GoodIn wsX7_asks (wsV RX7 179 RX7 yX7_asksOf wsX7_asksOf) := goodIn_app (goodIn_of _ (by decide +kernel)) ggX7_asks_X7_asksOf
theorem dX7_asks_0 : decode cX7_asks 0 = .ok (.iload_n 1, 1) := by decide +kernel
theorem dX7_asks_1 : decode cX7_asks 1 = .ok (.iconst 0, 1) := by decide +kernel
theorem dX7_asks_2 : decode cX7_asks 2 = .ok (.iconst 2, 1) := by decide +kernel
theorem dX7_asks_3 : decode cX7_asks 3 = .ok (.invokestatic 93, 3) := by decide +kernel
theorem dX7_asks_6 : decode cX7_asks 6 = .ok (.ifCond .eq 20, 3) := by decide +kernel
theorem dX7_asks_9 : decode cX7_asks 9 = .ok (.iload_n 2, 1) := by decide +kernel
theorem dX7_asks_10 : decode cX7_asks 10 = .ok (.iconst (-1), 1) := by decide +kernel
theorem dX7_asks_11 : decode cX7_asks 11 = .ok (.if_icmp .eq 11, 3) := by decide +kernel
theorem dX7_asks_14 : decode cX7_asks 14 = .ok (.aload_n 0, 1) := by decide +kernel
theorem dX7_asks_15 : decode cX7_asks 15 = .ok (.iload_n 2, 1) := by decide +kernel
theorem dX7_asks_16 : decode cX7_asks 16 = .ok (.invokevirtual 176, 3) := by decide +kernel
theorem dX7_asks_19 : decode cX7_asks 19 = .ok (.ifCond .eq 7, 3) := by decide +kernel
theorem dX7_asks_22 : decode cX7_asks 22 = .ok (.iconst 1, 1) := by decide +kernel
theorem dX7_asks_23 : decode cX7_asks 23 = .ok (.goto 4, 3) := by decide +kernel
theorem dX7_asks_26 : decode cX7_asks 26 = .ok (.iconst 0, 1) := by decide +kernel
theorem dX7_asks_27 : decode cX7_asks 27 = .ok (.istore 6, 2) := by decide +kernel
theorem dX7_asks_29 : decode cX7_asks 29 = .ok (.iload 6, 2) := by decide +kernel
theorem dX7_asks_31 : decode cX7_asks 31 = .ok (.ifCond .eq 35, 3) := by decide +kernel
theorem dX7_asks_34 : decode cX7_asks 34 = .ok (.iload_n 3, 1) := by decide +kernel
theorem dX7_asks_35 : decode cX7_asks 35 = .ok (.iconst 0, 1) := by decide +kernel
theorem dX7_asks_36 : decode cX7_asks 36 = .ok (.bipush 99, 2) := by decide +kernel
theorem dX7_asks_38 : decode cX7_asks 38 = .ok (.invokestatic 93, 3) := by decide +kernel
theorem dX7_asks_41 : decode cX7_asks 41 = .ok (.ifCond .eq 25, 3) := by decide +kernel
theorem dX7_asks_44 : decode cX7_asks 44 = .ok (.iload 4, 2) := by decide +kernel
theorem dX7_asks_46 : decode cX7_asks 46 = .ok (.iconst 0, 1) := by decide +kernel
theorem dX7_asks_47 : decode cX7_asks 47 = .ok (.bipush 60, 2) := by decide +kernel
theorem dX7_asks_49 : decode cX7_asks 49 = .ok (.invokestatic 93, 3) := by decide +kernel
theorem dX7_asks_52 : decode cX7_asks 52 = .ok (.ifCond .eq 14, 3) := by decide +kernel
theorem dX7_asks_55 : decode cX7_asks 55 = .ok (.iload 5, 2) := by decide +kernel
theorem dX7_asks_57 : decode cX7_asks 57 = .ok (.iconst 0, 1) := by decide +kernel
theorem dX7_asks_58 : decode cX7_asks 58 = .ok (.bipush 6, 2) := by decide +kernel
theorem dX7_asks_60 : decode cX7_asks 60 = .ok (.invokestatic 93, 3) := by decide +kernel
theorem dX7_asks_63 : decode cX7_asks 63 = .ok (.ifCond .ne 6, 3) := by decide +kernel
theorem dX7_asks_66 : decode cX7_asks 66 = .ok (.bipush (-2), 2) := by decide +kernel
theorem dX7_asks_68 : decode cX7_asks 68 = .ok (.ireturn, 1) := by decide +kernel
theorem dX7_asks_69 : decode cX7_asks 69 = .ok (.aload_n 0, 1) := by decide +kernel
theorem dX7_asks_70 : decode cX7_asks 70 = .ok (.iload_n 1, 1) := by decide +kernel
theorem dX7_asks_71 : decode cX7_asks 71 = .ok (.iload_n 2, 1) := by decide +kernel
theorem dX7_asks_72 : decode cX7_asks 72 = .ok (.iload_n 3, 1) := by decide +kernel
theorem dX7_asks_73 : decode cX7_asks 73 = .ok (.iload 4, 2) := by decide +kernel
theorem dX7_asks_75 : decode cX7_asks 75 = .ok (.iload 5, 2) := by decide +kernel
theorem dX7_asks_77 : decode cX7_asks 77 = .ok (.invokevirtual 179, 3) := by decide +kernel
theorem dX7_asks_80 : decode cX7_asks 80 = .ok (.ireturn, 1) := by decide +kernel
set_option maxRecDepth 20000 in
theorem ggX7_courtier_X7_in : GoodIn wsX7_courtier wsX7_in := goodIn_q _ [8] [] rfl (by decide +kernel) (by decide +kernel)
set_option maxRecDepth 20000 in
theorem gX7_courtier_X7_in : GoodIn wsX7_courtier (va_wsS RX7 93 yX7_in wsX7_in) := goodIn_app (goodIn_of _ (by decide +kernel)) ggX7_courtier_X7_in
theorem dX7_courtier_0 : decode cX7_courtier 0 = .ok (.iload_n 1, 1) := by decide +kernel
theorem dX7_courtier_1 : decode cX7_courtier 1 = .ok (.iconst 0, 1) := by decide +kernel
theorem dX7_courtier_2 : decode cX7_courtier 2 = .ok (.bipush 59, 2) := by decide +kernel
theorem dX7_courtier_4 : decode cX7_courtier 4 = .ok (.invokestatic 93, 3) := by decide +kernel
theorem dX7_courtier_7 : decode cX7_courtier 7 = .ok (.ifCond .eq 13, 3) := by decide +kernel
theorem dX7_courtier_10 : decode cX7_courtier 10 = .ok (.iload_n 2, 1) := by decide +kernel
theorem dX7_courtier_11 : decode cX7_courtier 11 = .ok (.iconst 0, 1) := by decide +kernel
theorem dX7_courtier_12 : decode cX7_courtier 12 = .ok (.bipush 99, 2) := by decide +kernel
theorem dX7_courtier_14 : decode cX7_courtier 14 = .ok (.invokestatic 93, 3) := by decide +kernel
theorem dX7_courtier_17 : decode cX7_courtier 17 = .ok (.ifCond .ne 6, 3) := by decide +kernel
theorem dX7_courtier_20 : decode cX7_courtier 20 = .ok (.bipush (-2), 2) := by decide +kernel
theorem dX7_courtier_22 : decode cX7_courtier 22 = .ok (.ireturn, 1) := by decide +kernel
theorem dX7_courtier_23 : decode cX7_courtier 23 = .ok (.aload_n 0, 1) := by decide +kernel
theorem dX7_courtier_24 : decode cX7_courtier 24 = .ok (.getfield 90, 3) := by decide +kernel
theorem dX7_courtier_27 : decode cX7_courtier 27 = .ok (.bipush 6, 2) := by decide +kernel
theorem dX7_courtier_29 : decode cX7_courtier 29 = .ok (.if_icmp .ne 6, 3) := by decide +kernel
theorem dX7_courtier_32 : decode cX7_courtier 32 = .ok (.bipush (-4), 2) := by decide +kernel
theorem dX7_courtier_34 : decode cX7_courtier 34 = .ok (.ireturn, 1) := by decide +kernel
theorem dX7_courtier_35 : decode cX7_courtier 35 = .ok (.aload_n 0, 1) := by decide +kernel
theorem dX7_courtier_36 : decode cX7_courtier 36 = .ok (.getfield 7, 3) := by decide +kernel
theorem dX7_courtier_39 : decode cX7_courtier 39 = .ok (.aload_n 0, 1) := by decide +kernel
theorem dX7_courtier_40 : decode cX7_courtier 40 = .ok (.getfield 90, 3) := by decide +kernel
theorem dX7_courtier_43 : decode cX7_courtier 43 = .ok (.iload_n 1, 1) := by decide +kernel
theorem dX7_courtier_44 : decode cX7_courtier 44 = .ok (.bipush 10, 2) := by decide +kernel
theorem dX7_courtier_46 : decode cX7_courtier 46 = .ok (.idiv, 1) := by decide +kernel
theorem dX7_courtier_47 : decode cX7_courtier 47 = .ok (.iastore, 1) := by decide +kernel
theorem dX7_courtier_48 : decode cX7_courtier 48 = .ok (.aload_n 0, 1) := by decide +kernel
theorem dX7_courtier_49 : decode cX7_courtier 49 = .ok (.getfield 13, 3) := by decide +kernel
theorem dX7_courtier_52 : decode cX7_courtier 52 = .ok (.aload_n 0, 1) := by decide +kernel
theorem dX7_courtier_53 : decode cX7_courtier 53 = .ok (.getfield 90, 3) := by decide +kernel
theorem dX7_courtier_56 : decode cX7_courtier 56 = .ok (.iload_n 1, 1) := by decide +kernel
theorem dX7_courtier_57 : decode cX7_courtier 57 = .ok (.bipush 10, 2) := by decide +kernel
theorem dX7_courtier_59 : decode cX7_courtier 59 = .ok (.irem, 1) := by decide +kernel
theorem dX7_courtier_60 : decode cX7_courtier 60 = .ok (.iastore, 1) := by decide +kernel
theorem dX7_courtier_61 : decode cX7_courtier 61 = .ok (.aload_n 0, 1) := by decide +kernel
theorem dX7_courtier_62 : decode cX7_courtier 62 = .ok (.getfield 16, 3) := by decide +kernel
theorem dX7_courtier_65 : decode cX7_courtier 65 = .ok (.iconst 2, 1) := by decide +kernel
theorem dX7_courtier_66 : decode cX7_courtier 66 = .ok (.aload_n 0, 1) := by decide +kernel
theorem dX7_courtier_67 : decode cX7_courtier 67 = .ok (.getfield 90, 3) := by decide +kernel
theorem dX7_courtier_70 : decode cX7_courtier 70 = .ok (.imul, 1) := by decide +kernel
theorem dX7_courtier_71 : decode cX7_courtier 71 = .ok (.iload_n 2, 1) := by decide +kernel
theorem dX7_courtier_72 : decode cX7_courtier 72 = .ok (.iastore, 1) := by decide +kernel
theorem dX7_courtier_73 : decode cX7_courtier 73 = .ok (.aload_n 0, 1) := by decide +kernel
theorem dX7_courtier_74 : decode cX7_courtier 74 = .ok (.getfield 16, 3) := by decide +kernel
theorem dX7_courtier_77 : decode cX7_courtier 77 = .ok (.iconst 2, 1) := by decide +kernel
theorem dX7_courtier_78 : decode cX7_courtier 78 = .ok (.aload_n 0, 1) := by decide +kernel
theorem dX7_courtier_79 : decode cX7_courtier 79 = .ok (.getfield 90, 3) := by decide +kernel
theorem dX7_courtier_82 : decode cX7_courtier 82 = .ok (.imul, 1) := by decide +kernel
theorem dX7_courtier_83 : decode cX7_courtier 83 = .ok (.iconst 1, 1) := by decide +kernel
theorem dX7_courtier_84 : decode cX7_courtier 84 = .ok (.iadd, 1) := by decide +kernel
theorem dX7_courtier_85 : decode cX7_courtier 85 = .ok (.sipush 500, 3) := by decide +kernel
theorem dX7_courtier_88 : decode cX7_courtier 88 = .ok (.iastore, 1) := by decide +kernel
theorem dX7_courtier_89 : decode cX7_courtier 89 = .ok (.aload_n 0, 1) := by decide +kernel
theorem dX7_courtier_90 : decode cX7_courtier 90 = .ok (.dup, 1) := by decide +kernel
theorem dX7_courtier_91 : decode cX7_courtier 91 = .ok (.getfield 90, 3) := by decide +kernel
theorem dX7_courtier_94 : decode cX7_courtier 94 = .ok (.iconst 1, 1) := by decide +kernel
theorem dX7_courtier_95 : decode cX7_courtier 95 = .ok (.iadd, 1) := by decide +kernel
theorem dX7_courtier_96 : decode cX7_courtier 96 = .ok (.putfield 90, 3) := by decide +kernel
theorem dX7_courtier_99 : decode cX7_courtier 99 = .ok (.aload_n 0, 1) := by decide +kernel
theorem dX7_courtier_100 : decode cX7_courtier 100 = .ok (.getfield 90, 3) := by decide +kernel
theorem dX7_courtier_103 : decode cX7_courtier 103 = .ok (.iconst 1, 1) := by decide +kernel
theorem dX7_courtier_104 : decode cX7_courtier 104 = .ok (.isub, 1) := by decide +kernel
theorem dX7_courtier_105 : decode cX7_courtier 105 = .ok (.ireturn, 1) := by decide +kernel
set_option maxRecDepth 20000 in
theorem ggX7_put_X7_isOne : GoodIn wsX7_put wsX7_isOne := goodIn_q _ [6, 10] [7, 8, 9, 5, 11, 12, 13, 14, 15, 16, 17, 18, 19, 20, 21, 22, 23, 24, 25, 26, 27, 28, 29, 30, 31, 32, 33, 34, 35, 36, 37, 38, 39, 40, 41, 42, 43, 44, 45, 46, 47, 48, 49, 50, 51, 52, 53] rfl (by decide +kernel) (by decide +kernel)
set_option maxRecDepth 20000 in
theorem gX7_put_X7_isOne : GoodIn wsX7_put (wsV RX7 176 RX7 yX7_isOne wsX7_isOne) := goodIn_app (goodIn_of _ (by decide +kernel)) ggX7_put_X7_isOne
set_option maxRecDepth 20000 in
theorem ggX7_put_X7_in : GoodIn wsX7_put wsX7_in := goodIn_q _ [10] [] rfl (by decide +kernel) (by decide +kernel)
set_option maxRecDepth 20000 in
theorem gX7_put_X7_in : GoodIn wsX7_put (va_wsS RX7 93 yX7_in wsX7_in) := goodIn_app (goodIn_of _ (by decide +kernel)) ggX7_put_X7_in
theorem dX7_put_0 : decode cX7_put 0 = .ok (.aload_n 0, 1) := by decide +kernel
theorem dX7_put_1 : decode cX7_put 1 = .ok (.iload_n 1, 1) := by decide +kernel
theorem dX7_put_2 : decode cX7_put 2 = .ok (.invokevirtual 176, 3) := by decide +kernel
theorem dX7_put_5 : decode cX7_put 5 = .ok (.ifCond .ne 6, 3) := by decide +kernel
theorem dX7_put_8 : decode cX7_put 8 = .ok (.bipush (-5), 2) := by decide +kernel
theorem dX7_put_10 : decode cX7_put 10 = .ok (.ireturn, 1) := by decide +kernel
theorem dX7_put_11 : decode cX7_put 11 = .ok (.iload_n 2, 1) := by decide +kernel
theorem dX7_put_12 : decode cX7_put 12 = .ok (.iconst 0, 1) := by decide +kernel
theorem dX7_put_13 : decode cX7_put 13 = .ok (.iconst 1, 1) := by decide +kernel
theorem dX7_put_14 : decode cX7_put 14 = .ok (.invokestatic 93, 3) := by decide +kernel
theorem dX7_put_17 : decode cX7_put 17 = .ok (.ifCond .eq 23, 3) := by decide +kernel
theorem dX7_put_20 : decode cX7_put 20 = .ok (.iload_n 3, 1) := by decide +kernel
theorem dX7_put_21 : decode cX7_put 21 = .ok (.iconst 0, 1) := by decide +kernel
theorem dX7_put_22 : decode cX7_put 22 = .ok (.iload_n 2, 1) := by decide +kernel
theorem dX7_put_23 : decode cX7_put 23 = .ok (.ifCond .ne 8, 3) := by decide +kernel
theorem dX7_put_26 : decode cX7_put 26 = .ok (.bipush 99, 2) := by decide +kernel
theorem dX7_put_28 : decode cX7_put 28 = .ok (.goto 6, 3) := by decide +kernel
theorem dX7_put_31 : decode cX7_put 31 = .ok (.sipush 999, 3) := by decide +kernel
theorem dX7_put_34 : decode cX7_put 34 = .ok (.invokestatic 93, 3) := by decide +kernel
theorem dX7_put_37 : decode cX7_put 37 = .ok (.ifCond .ne 6, 3) := by decide +kernel
theorem dX7_put_40 : decode cX7_put 40 = .ok (.bipush (-7), 2) := by decide +kernel
theorem dX7_put_42 : decode cX7_put 42 = .ok (.ireturn, 1) := by decide +kernel
theorem dX7_put_43 : decode cX7_put 43 = .ok (.aload_n 0, 1) := by decide +kernel
theorem dX7_put_44 : decode cX7_put 44 = .ok (.getfield 16, 3) := by decide +kernel
theorem dX7_put_47 : decode cX7_put 47 = .ok (.iconst 2, 1) := by decide +kernel
theorem dX7_put_48 : decode cX7_put 48 = .ok (.iload_n 1, 1) := by decide +kernel
theorem dX7_put_49 : decode cX7_put 49 = .ok (.imul, 1) := by decide +kernel
theorem dX7_put_50 : decode cX7_put 50 = .ok (.iload_n 2, 1) := by decide +kernel
theorem dX7_put_51 : decode cX7_put 51 = .ok (.iadd, 1) := by decide +kernel
theorem dX7_put_52 : decode cX7_put 52 = .ok (.iaload, 1) := by decide +kernel
theorem dX7_put_53 : decode cX7_put 53 = .ok (.istore 4, 2) := by decide +kernel
theorem dX7_put_55 : decode cX7_put 55 = .ok (.aload_n 0, 1) := by decide +kernel
theorem dX7_put_56 : decode cX7_put 56 = .ok (.getfield 16, 3) := by decide +kernel
theorem dX7_put_59 : decode cX7_put 59 = .ok (.iconst 2, 1) := by decide +kernel
theorem dX7_put_60 : decode cX7_put 60 = .ok (.iload_n 1, 1) := by decide +kernel
theorem dX7_put_61 : decode cX7_put 61 = .ok (.imul, 1) := by decide +kernel
theorem dX7_put_62 : decode cX7_put 62 = .ok (.iload_n 2, 1) := by decide +kernel
theorem dX7_put_63 : decode cX7_put 63 = .ok (.iadd, 1) := by decide +kernel
theorem dX7_put_64 : decode cX7_put 64 = .ok (.iload_n 3, 1) := by decide +kernel
theorem dX7_put_65 : decode cX7_put 65 = .ok (.iastore, 1) := by decide +kernel
theorem dX7_put_66 : decode cX7_put 66 = .ok (.iload 4, 2) := by decide +kernel
theorem dX7_put_68 : decode cX7_put 68 = .ok (.ireturn, 1) := by decide +kernel
set_option maxRecDepth 20000 in
theorem ggX7_waitsOf_X7_asksOf : GoodIn wsX7_waitsOf wsX7_asksOf := goodIn_q _ [8, 14, 22, 25] [9, 10, 2, 11, 12, 13, 7, 15, 16, 17, 18, 19, 20, 21, 23, 24, 26, 27, 28, 29, 30, 31, 32, 33, 34, 35, 36, 37, 38, 39, 40, 41, 42, 43, 44, 45, 46, 47, 48, 49, 50, 51, 52, 53, 54, 55, 56, 57, 58, 59, 60, 61, 62, 63, 64, 65, 66, 67, 68] rfl (by decide +kernel) (by decide +kernel)
set_option maxRecDepth 20000 in
theorem gX7_waitsOf_X7_asksOf : GoodIn wsX7_waitsOf (wsV RX7 179 RX7 yX7_asksOf wsX7_asksOf) := goodIn_app (goodIn_of _ (by decide +kernel)) ggX7_waitsOf_X7_asksOf
theorem dX7_waitsOf_0 : decode cX7_waitsOf 0 = .ok (.aload_n 0, 1) := by decide +kernel
theorem dX7_waitsOf_1 : decode cX7_waitsOf 1 = .ok (.getfield 7, 3) := by decide +kernel
theorem dX7_waitsOf_4 : decode cX7_waitsOf 4 = .ok (.iload_n 1, 1) := by decide +kernel
theorem dX7_waitsOf_5 : decode cX7_waitsOf 5 = .ok (.iaload, 1) := by decide +kernel
theorem dX7_waitsOf_6 : decode cX7_waitsOf 6 = .ok (.iconst 5, 1) := by decide +kernel
theorem dX7_waitsOf_7 : decode cX7_waitsOf 7 = .ok (.if_icmp .ne 5, 3) := by decide +kernel
theorem dX7_waitsOf_10 : decode cX7_waitsOf 10 = .ok (.iconst 0, 1) := by decide +kernel
theorem dX7_waitsOf_11 : decode cX7_waitsOf 11 = .ok (.ireturn, 1) := by decide +kernel
theorem dX7_waitsOf_12 : decode cX7_waitsOf 12 = .ok (.aload_n 0, 1) := by decide +kernel
theorem dX7_waitsOf_13 : decode cX7_waitsOf 13 = .ok (.iconst 1, 1) := by decide +kernel
theorem dX7_waitsOf_14 : decode cX7_waitsOf 14 = .ok (.iload_n 1, 1) := by decide +kernel
theorem dX7_waitsOf_15 : decode cX7_waitsOf 15 = .ok (.iload_n 2, 1) := by decide +kernel
theorem dX7_waitsOf_16 : decode cX7_waitsOf 16 = .ok (.iload_n 3, 1) := by decide +kernel
theorem dX7_waitsOf_17 : decode cX7_waitsOf 17 = .ok (.iload 4, 2) := by decide +kernel
theorem dX7_waitsOf_19 : decode cX7_waitsOf 19 = .ok (.invokevirtual 179, 3) := by decide +kernel
theorem dX7_waitsOf_22 : decode cX7_waitsOf 22 = .ok (.istore 5, 2) := by decide +kernel
theorem dX7_waitsOf_24 : decode cX7_waitsOf 24 = .ok (.iload_n 2, 1) := by decide +kernel
theorem dX7_waitsOf_25 : decode cX7_waitsOf 25 = .ok (.bipush 60, 2) := by decide +kernel
theorem dX7_waitsOf_27 : decode cX7_waitsOf 27 = .ok (.if_icmp .le 15, 3) := by decide +kernel
theorem dX7_waitsOf_30 : decode cX7_waitsOf 30 = .ok (.iload 5, 2) := by decide +kernel
theorem dX7_waitsOf_32 : decode cX7_waitsOf 32 = .ok (.aload_n 0, 1) := by decide +kernel
theorem dX7_waitsOf_33 : decode cX7_waitsOf 33 = .ok (.getfield 13, 3) := by decide +kernel
theorem dX7_waitsOf_36 : decode cX7_waitsOf 36 = .ok (.iload_n 1, 1) := by decide +kernel
theorem dX7_waitsOf_37 : decode cX7_waitsOf 37 = .ok (.iaload, 1) := by decide +kernel
theorem dX7_waitsOf_38 : decode cX7_waitsOf 38 = .ok (.iadd, 1) := by decide +kernel
theorem dX7_waitsOf_39 : decode cX7_waitsOf 39 = .ok (.goto 5, 3) := by decide +kernel
theorem dX7_waitsOf_42 : decode cX7_waitsOf 42 = .ok (.iload 5, 2) := by decide +kernel
theorem dX7_waitsOf_44 : decode cX7_waitsOf 44 = .ok (.istore 6, 2) := by decide +kernel
theorem dX7_waitsOf_46 : decode cX7_waitsOf 46 = .ok (.aload_n 0, 1) := by decide +kernel
theorem dX7_waitsOf_47 : decode cX7_waitsOf 47 = .ok (.getfield 7, 3) := by decide +kernel
theorem dX7_waitsOf_50 : decode cX7_waitsOf 50 = .ok (.iload_n 1, 1) := by decide +kernel
theorem dX7_waitsOf_51 : decode cX7_waitsOf 51 = .ok (.iaload, 1) := by decide +kernel
theorem dX7_waitsOf_52 : decode cX7_waitsOf 52 = .ok (.tableswitch 61 1 4 #[32, 61, 35, 40], 32) := by decide +kernel
theorem dX7_waitsOf_84 : decode cX7_waitsOf 84 = .ok (.iload 6, 2) := by decide +kernel
theorem dX7_waitsOf_86 : decode cX7_waitsOf 86 = .ok (.ireturn, 1) := by decide +kernel
theorem dX7_waitsOf_87 : decode cX7_waitsOf 87 = .ok (.iload 6, 2) := by decide +kernel
theorem dX7_waitsOf_89 : decode cX7_waitsOf 89 = .ok (.iconst 2, 1) := by decide +kernel
theorem dX7_waitsOf_90 : decode cX7_waitsOf 90 = .ok (.idiv, 1) := by decide +kernel
theorem dX7_waitsOf_91 : decode cX7_waitsOf 91 = .ok (.ireturn, 1) := by decide +kernel
theorem dX7_waitsOf_92 : decode cX7_waitsOf 92 = .ok (.aload_n 0, 1) := by decide +kernel
theorem dX7_waitsOf_93 : decode cX7_waitsOf 93 = .ok (.getfield 97, 3) := by decide +kernel
theorem dX7_waitsOf_96 : decode cX7_waitsOf 96 = .ok (.iconst 4, 1) := by decide +kernel
theorem dX7_waitsOf_97 : decode cX7_waitsOf 97 = .ok (.irem, 1) := by decide +kernel
theorem dX7_waitsOf_98 : decode cX7_waitsOf 98 = .ok (.ifCond .ne 12, 3) := by decide +kernel
theorem dX7_waitsOf_101 : decode cX7_waitsOf 101 = .ok (.aload_n 0, 1) := by decide +kernel
theorem dX7_waitsOf_102 : decode cX7_waitsOf 102 = .ok (.getfield 13, 3) := by decide +kernel
theorem dX7_waitsOf_105 : decode cX7_waitsOf 105 = .ok (.iload_n 1, 1) := by decide +kernel
theorem dX7_waitsOf_106 : decode cX7_waitsOf 106 = .ok (.iaload, 1) := by decide +kernel
theorem dX7_waitsOf_107 : decode cX7_waitsOf 107 = .ok (.goto 5, 3) := by decide +kernel
theorem dX7_waitsOf_110 : decode cX7_waitsOf 110 = .ok (.iload 5, 2) := by decide +kernel
theorem dX7_waitsOf_112 : decode cX7_waitsOf 112 = .ok (.ireturn, 1) := by decide +kernel
theorem dX7_waitsOf_113 : decode cX7_waitsOf 113 = .ok (.iload 5, 2) := by decide +kernel
theorem dX7_waitsOf_115 : decode cX7_waitsOf 115 = .ok (.ireturn, 1) := by decide +kernel
set_option maxRecDepth 20000 in
theorem ggX7_likesOf_X7_asksOf : GoodIn wsX7_likesOf wsX7_asksOf := goodIn_q _ [7, 13, 21, 24] [8, 9, 2, 10, 11, 12, 6, 14, 15, 16, 17, 18, 19, 20, 22, 23, 25, 26, 27, 28, 29, 30, 31, 32, 33, 34, 35, 36, 37, 38, 39, 40, 41, 42, 43, 44, 45, 46, 47, 48, 49, 50, 51, 52, 53, 54, 55, 56, 57, 58, 59, 60, 61, 62, 63, 64, 65, 66, 67] rfl (by decide +kernel) (by decide +kernel)
set_option maxRecDepth 20000 in
theorem gX7_likesOf_X7_asksOf : GoodIn wsX7_likesOf (wsV RX7 179 RX7 yX7_asksOf wsX7_asksOf) := goodIn_app (goodIn_of _ (by decide +kernel)) ggX7_likesOf_X7_asksOf
set_option maxRecDepth 20000 in
theorem ggX7_likesOf_X7_within : GoodIn wsX7_likesOf wsX7_within := goodIn_q _ [24] [] rfl (by decide +kernel) (by decide +kernel)
set_option maxRecDepth 20000 in
theorem gX7_likesOf_X7_within : GoodIn wsX7_likesOf (va_wsS RX7 173 yX7_within wsX7_within) := goodIn_app (goodIn_of _ (by decide +kernel)) ggX7_likesOf_X7_within
theorem dX7_likesOf_0 : decode cX7_likesOf 0 = .ok (.aload_n 0, 1) := by decide +kernel
theorem dX7_likesOf_1 : decode cX7_likesOf 1 = .ok (.iconst 2, 1) := by decide +kernel
theorem dX7_likesOf_2 : decode cX7_likesOf 2 = .ok (.iload_n 1, 1) := by decide +kernel
theorem dX7_likesOf_3 : decode cX7_likesOf 3 = .ok (.iload_n 2, 1) := by decide +kernel
theorem dX7_likesOf_4 : decode cX7_likesOf 4 = .ok (.iload_n 3, 1) := by decide +kernel
theorem dX7_likesOf_5 : decode cX7_likesOf 5 = .ok (.iload 4, 2) := by decide +kernel
theorem dX7_likesOf_7 : decode cX7_likesOf 7 = .ok (.invokevirtual 179, 3) := by decide +kernel
theorem dX7_likesOf_10 : decode cX7_likesOf 10 = .ok (.istore 5, 2) := by decide +kernel
theorem dX7_likesOf_12 : decode cX7_likesOf 12 = .ok (.aload_n 0, 1) := by decide +kernel
theorem dX7_likesOf_13 : decode cX7_likesOf 13 = .ok (.getfield 7, 3) := by decide +kernel
theorem dX7_likesOf_16 : decode cX7_likesOf 16 = .ok (.iload_n 1, 1) := by decide +kernel
theorem dX7_likesOf_17 : decode cX7_likesOf 17 = .ok (.iaload, 1) := by decide +kernel
theorem dX7_likesOf_18 : decode cX7_likesOf 18 = .ok (.tableswitch 48 2 4 #[26, 42, 26], 26) := by decide +kernel
theorem dX7_likesOf_44 : decode cX7_likesOf 44 = .ok (.iload 5, 2) := by decide +kernel
theorem dX7_likesOf_46 : decode cX7_likesOf 46 = .ok (.aload_n 0, 1) := by decide +kernel
theorem dX7_likesOf_47 : decode cX7_likesOf 47 = .ok (.getfield 13, 3) := by decide +kernel
theorem dX7_likesOf_50 : decode cX7_likesOf 50 = .ok (.iload_n 1, 1) := by decide +kernel
theorem dX7_likesOf_51 : decode cX7_likesOf 51 = .ok (.iaload, 1) := by decide +kernel
theorem dX7_likesOf_52 : decode cX7_likesOf 52 = .ok (.isub, 1) := by decide +kernel
theorem dX7_likesOf_53 : decode cX7_likesOf 53 = .ok (.iconst 0, 1) := by decide +kernel
theorem dX7_likesOf_54 : decode cX7_likesOf 54 = .ok (.bipush 99, 2) := by decide +kernel
theorem dX7_likesOf_56 : decode cX7_likesOf 56 = .ok (.invokestatic 173, 3) := by decide +kernel
theorem dX7_likesOf_59 : decode cX7_likesOf 59 = .ok (.ireturn, 1) := by decide +kernel
theorem dX7_likesOf_60 : decode cX7_likesOf 60 = .ok (.bipush 99, 2) := by decide +kernel
theorem dX7_likesOf_62 : decode cX7_likesOf 62 = .ok (.iload 5, 2) := by decide +kernel
theorem dX7_likesOf_64 : decode cX7_likesOf 64 = .ok (.isub, 1) := by decide +kernel
theorem dX7_likesOf_65 : decode cX7_likesOf 65 = .ok (.ireturn, 1) := by decide +kernel
theorem dX7_likesOf_66 : decode cX7_likesOf 66 = .ok (.iload 5, 2) := by decide +kernel
theorem dX7_likesOf_68 : decode cX7_likesOf 68 = .ok (.ireturn, 1) := by decide +kernel
theorem dX7_mindsOf_0 : decode cX7_mindsOf 0 = .ok (.iload_n 2, 1) := by decide +kernel
theorem dX7_mindsOf_1 : decode cX7_mindsOf 1 = .ok (.ifCond .ge 8, 3) := by decide +kernel
theorem dX7_mindsOf_4 : decode cX7_mindsOf 4 = .ok (.iload_n 2, 1) := by decide +kernel
theorem dX7_mindsOf_5 : decode cX7_mindsOf 5 = .ok (.ineg, 1) := by decide +kernel
theorem dX7_mindsOf_6 : decode cX7_mindsOf 6 = .ok (.goto 4, 3) := by decide +kernel
theorem dX7_mindsOf_9 : decode cX7_mindsOf 9 = .ok (.iload_n 2, 1) := by decide +kernel
theorem dX7_mindsOf_10 : decode cX7_mindsOf 10 = .ok (.istore_n 3, 1) := by decide +kernel
theorem dX7_mindsOf_11 : decode cX7_mindsOf 11 = .ok (.iload_n 2, 1) := by decide +kernel
theorem dX7_mindsOf_12 : decode cX7_mindsOf 12 = .ok (.ifCond .ge 9, 3) := by decide +kernel
theorem dX7_mindsOf_15 : decode cX7_mindsOf 15 = .ok (.iload_n 3, 1) := by decide +kernel
theorem dX7_mindsOf_16 : decode cX7_mindsOf 16 = .ok (.iconst 2, 1) := by decide +kernel
theorem dX7_mindsOf_17 : decode cX7_mindsOf 17 = .ok (.idiv, 1) := by decide +kernel
theorem dX7_mindsOf_18 : decode cX7_mindsOf 18 = .ok (.goto 4, 3) := by decide +kernel
theorem dX7_mindsOf_21 : decode cX7_mindsOf 21 = .ok (.iload_n 3, 1) := by decide +kernel
theorem dX7_mindsOf_22 : decode cX7_mindsOf 22 = .ok (.istore 4, 2) := by decide +kernel
theorem dX7_mindsOf_24 : decode cX7_mindsOf 24 = .ok (.aload_n 0, 1) := by decide +kernel
theorem dX7_mindsOf_25 : decode cX7_mindsOf 25 = .ok (.getfield 7, 3) := by decide +kernel
theorem dX7_mindsOf_28 : decode cX7_mindsOf 28 = .ok (.iload_n 1, 1) := by decide +kernel
theorem dX7_mindsOf_29 : decode cX7_mindsOf 29 = .ok (.iaload, 1) := by decide +kernel
theorem dX7_mindsOf_30 : decode cX7_mindsOf 30 = .ok (.tableswitch 82 1 5 #[34, 46, 34, 49, 74], 34) := by decide +kernel
theorem dX7_mindsOf_64 : decode cX7_mindsOf 64 = .ok (.iload_n 2, 1) := by decide +kernel
theorem dX7_mindsOf_65 : decode cX7_mindsOf 65 = .ok (.ifCond .le 9, 3) := by decide +kernel
theorem dX7_mindsOf_68 : decode cX7_mindsOf 68 = .ok (.iconst 2, 1) := by decide +kernel
theorem dX7_mindsOf_69 : decode cX7_mindsOf 69 = .ok (.iload_n 3, 1) := by decide +kernel
theorem dX7_mindsOf_70 : decode cX7_mindsOf 70 = .ok (.imul, 1) := by decide +kernel
theorem dX7_mindsOf_71 : decode cX7_mindsOf 71 = .ok (.goto 4, 3) := by decide +kernel
theorem dX7_mindsOf_74 : decode cX7_mindsOf 74 = .ok (.iload_n 3, 1) := by decide +kernel
theorem dX7_mindsOf_75 : decode cX7_mindsOf 75 = .ok (.ireturn, 1) := by decide +kernel
theorem dX7_mindsOf_76 : decode cX7_mindsOf 76 = .ok (.iload 4, 2) := by decide +kernel
theorem dX7_mindsOf_78 : decode cX7_mindsOf 78 = .ok (.ireturn, 1) := by decide +kernel
theorem dX7_mindsOf_79 : decode cX7_mindsOf 79 = .ok (.iload 4, 2) := by decide +kernel
theorem dX7_mindsOf_81 : decode cX7_mindsOf 81 = .ok (.aload_n 0, 1) := by decide +kernel
theorem dX7_mindsOf_82 : decode cX7_mindsOf 82 = .ok (.getfield 13, 3) := by decide +kernel
theorem dX7_mindsOf_85 : decode cX7_mindsOf 85 = .ok (.iload_n 1, 1) := by decide +kernel
theorem dX7_mindsOf_86 : decode cX7_mindsOf 86 = .ok (.iaload, 1) := by decide +kernel
theorem dX7_mindsOf_87 : decode cX7_mindsOf 87 = .ok (.if_icmp .ge 7, 3) := by decide +kernel
theorem dX7_mindsOf_90 : decode cX7_mindsOf 90 = .ok (.iconst 0, 1) := by decide +kernel
theorem dX7_mindsOf_91 : decode cX7_mindsOf 91 = .ok (.goto 12, 3) := by decide +kernel
theorem dX7_mindsOf_94 : decode cX7_mindsOf 94 = .ok (.iload 4, 2) := by decide +kernel
theorem dX7_mindsOf_96 : decode cX7_mindsOf 96 = .ok (.aload_n 0, 1) := by decide +kernel
theorem dX7_mindsOf_97 : decode cX7_mindsOf 97 = .ok (.getfield 13, 3) := by decide +kernel
theorem dX7_mindsOf_100 : decode cX7_mindsOf 100 = .ok (.iload_n 1, 1) := by decide +kernel
theorem dX7_mindsOf_101 : decode cX7_mindsOf 101 = .ok (.iaload, 1) := by decide +kernel
theorem dX7_mindsOf_102 : decode cX7_mindsOf 102 = .ok (.isub, 1) := by decide +kernel
theorem dX7_mindsOf_103 : decode cX7_mindsOf 103 = .ok (.ireturn, 1) := by decide +kernel
theorem dX7_mindsOf_104 : decode cX7_mindsOf 104 = .ok (.aload_n 0, 1) := by decide +kernel
theorem dX7_mindsOf_105 : decode cX7_mindsOf 105 = .ok (.getfield 13, 3) := by decide +kernel
theorem dX7_mindsOf_108 : decode cX7_mindsOf 108 = .ok (.iload_n 1, 1) := by decide +kernel
theorem dX7_mindsOf_109 : decode cX7_mindsOf 109 = .ok (.iaload, 1) := by decide +kernel
theorem dX7_mindsOf_110 : decode cX7_mindsOf 110 = .ok (.ineg, 1) := by decide +kernel
theorem dX7_mindsOf_111 : decode cX7_mindsOf 111 = .ok (.ireturn, 1) := by decide +kernel
theorem dX7_mindsOf_112 : decode cX7_mindsOf 112 = .ok (.iload_n 3, 1) := by decide +kernel
theorem dX7_mindsOf_113 : decode cX7_mindsOf 113 = .ok (.ireturn, 1) := by decide +kernel
theorem dX7_isBetter_0 : decode cX7_isBetter 0 = .ok (.aload_n 0, 1) := by decide +kernel
theorem dX7_isBetter_1 : decode cX7_isBetter 1 = .ok (.getfield 16, 3) := by decide +kernel
theorem dX7_isBetter_4 : decode cX7_isBetter 4 = .ok (.iconst 2, 1) := by decide +kernel
theorem dX7_isBetter_5 : decode cX7_isBetter 5 = .ok (.iload_n 1, 1) := by decide +kernel
theorem dX7_isBetter_6 : decode cX7_isBetter 6 = .ok (.imul, 1) := by decide +kernel
theorem dX7_isBetter_7 : decode cX7_isBetter 7 = .ok (.iaload, 1) := by decide +kernel
theorem dX7_isBetter_8 : decode cX7_isBetter 8 = .ok (.aload_n 0, 1) := by decide +kernel
theorem dX7_isBetter_9 : decode cX7_isBetter 9 = .ok (.getfield 16, 3) := by decide +kernel
theorem dX7_isBetter_12 : decode cX7_isBetter 12 = .ok (.iconst 2, 1) := by decide +kernel
theorem dX7_isBetter_13 : decode cX7_isBetter 13 = .ok (.iload_n 2, 1) := by decide +kernel
theorem dX7_isBetter_14 : decode cX7_isBetter 14 = .ok (.imul, 1) := by decide +kernel
theorem dX7_isBetter_15 : decode cX7_isBetter 15 = .ok (.iaload, 1) := by decide +kernel
theorem dX7_isBetter_16 : decode cX7_isBetter 16 = .ok (.if_icmp .gt 27, 3) := by decide +kernel
theorem dX7_isBetter_19 : decode cX7_isBetter 19 = .ok (.aload_n 0, 1) := by decide +kernel
theorem dX7_isBetter_20 : decode cX7_isBetter 20 = .ok (.getfield 16, 3) := by decide +kernel
theorem dX7_isBetter_23 : decode cX7_isBetter 23 = .ok (.iconst 2, 1) := by decide +kernel
theorem dX7_isBetter_24 : decode cX7_isBetter 24 = .ok (.iload_n 1, 1) := by decide +kernel
theorem dX7_isBetter_25 : decode cX7_isBetter 25 = .ok (.imul, 1) := by decide +kernel
theorem dX7_isBetter_26 : decode cX7_isBetter 26 = .ok (.iaload, 1) := by decide +kernel
theorem dX7_isBetter_27 : decode cX7_isBetter 27 = .ok (.aload_n 0, 1) := by decide +kernel
theorem dX7_isBetter_28 : decode cX7_isBetter 28 = .ok (.getfield 16, 3) := by decide +kernel
theorem dX7_isBetter_31 : decode cX7_isBetter 31 = .ok (.iconst 2, 1) := by decide +kernel
theorem dX7_isBetter_32 : decode cX7_isBetter 32 = .ok (.iload_n 2, 1) := by decide +kernel
theorem dX7_isBetter_33 : decode cX7_isBetter 33 = .ok (.imul, 1) := by decide +kernel
theorem dX7_isBetter_34 : decode cX7_isBetter 34 = .ok (.iaload, 1) := by decide +kernel
theorem dX7_isBetter_35 : decode cX7_isBetter 35 = .ok (.if_icmp .ne 12, 3) := by decide +kernel
theorem dX7_isBetter_38 : decode cX7_isBetter 38 = .ok (.iload_n 1, 1) := by decide +kernel
theorem dX7_isBetter_39 : decode cX7_isBetter 39 = .ok (.iload_n 2, 1) := by decide +kernel
theorem dX7_isBetter_40 : decode cX7_isBetter 40 = .ok (.if_icmp .ge 7, 3) := by decide +kernel
theorem dX7_isBetter_43 : decode cX7_isBetter 43 = .ok (.iconst 1, 1) := by decide +kernel
theorem dX7_isBetter_44 : decode cX7_isBetter 44 = .ok (.goto 4, 3) := by decide +kernel
theorem dX7_isBetter_47 : decode cX7_isBetter 47 = .ok (.iconst 0, 1) := by decide +kernel
theorem dX7_isBetter_48 : decode cX7_isBetter 48 = .ok (.ireturn, 1) := by decide +kernel
set_option maxRecDepth 20000 in
theorem ggX7_standsDown_X7_isBetter : GoodIn wsX7_standsDown wsX7_isBetter := goodIn_q _ [8] [9, 10, 11, 12, 13, 14, 15, 16, 17, 18, 19, 20, 21, 22, 23, 24, 25, 26, 27, 28, 29, 30, 31, 32, 33, 34, 35, 36, 37, 38, 39, 40, 41, 42, 43, 44, 45, 46, 47, 48, 49, 50, 51, 52] rfl (by decide +kernel) (by decide +kernel)
set_option maxRecDepth 20000 in
theorem gX7_standsDown_X7_isBetter : GoodIn wsX7_standsDown (wsV RX7 183 RX7 yX7_isBetter wsX7_isBetter) := goodIn_app (goodIn_of _ (by decide +kernel)) ggX7_standsDown_X7_isBetter
theorem dX7_standsDown_0 : decode cX7_standsDown 0 = .ok (.iconst 0, 1) := by decide +kernel
theorem dX7_standsDown_1 : decode cX7_standsDown 1 = .ok (.istore_n 2, 1) := by decide +kernel
theorem dX7_standsDown_2 : decode cX7_standsDown 2 = .ok (.iconst 0, 1) := by decide +kernel
theorem dX7_standsDown_3 : decode cX7_standsDown 3 = .ok (.istore_n 3, 1) := by decide +kernel
theorem dX7_standsDown_4 : decode cX7_standsDown 4 = .ok (.iload_n 3, 1) := by decide +kernel
theorem dX7_standsDown_5 : decode cX7_standsDown 5 = .ok (.aload_n 0, 1) := by decide +kernel
theorem dX7_standsDown_6 : decode cX7_standsDown 6 = .ok (.getfield 90, 3) := by decide +kernel
theorem dX7_standsDown_9 : decode cX7_standsDown 9 = .ok (.if_icmp .ge 86, 3) := by decide +kernel
theorem dX7_standsDown_12 : decode cX7_standsDown 12 = .ok (.iconst 0, 1) := by decide +kernel
theorem dX7_standsDown_13 : decode cX7_standsDown 13 = .ok (.istore 4, 2) := by decide +kernel
theorem dX7_standsDown_15 : decode cX7_standsDown 15 = .ok (.iconst 0, 1) := by decide +kernel
theorem dX7_standsDown_16 : decode cX7_standsDown 16 = .ok (.istore 5, 2) := by decide +kernel
theorem dX7_standsDown_18 : decode cX7_standsDown 18 = .ok (.iload 5, 2) := by decide +kernel
theorem dX7_standsDown_20 : decode cX7_standsDown 20 = .ok (.aload_n 0, 1) := by decide +kernel
theorem dX7_standsDown_21 : decode cX7_standsDown 21 = .ok (.getfield 90, 3) := by decide +kernel
theorem dX7_standsDown_24 : decode cX7_standsDown 24 = .ok (.if_icmp .ge 41, 3) := by decide +kernel
theorem dX7_standsDown_27 : decode cX7_standsDown 27 = .ok (.iload 4, 2) := by decide +kernel
theorem dX7_standsDown_29 : decode cX7_standsDown 29 = .ok (.iload 5, 2) := by decide +kernel
theorem dX7_standsDown_31 : decode cX7_standsDown 31 = .ok (.iload_n 1, 1) := by decide +kernel
theorem dX7_standsDown_32 : decode cX7_standsDown 32 = .ok (.if_icmp .eq 23, 3) := by decide +kernel
theorem dX7_standsDown_35 : decode cX7_standsDown 35 = .ok (.iload 5, 2) := by decide +kernel
theorem dX7_standsDown_37 : decode cX7_standsDown 37 = .ok (.iload_n 3, 1) := by decide +kernel
theorem dX7_standsDown_38 : decode cX7_standsDown 38 = .ok (.if_icmp .eq 17, 3) := by decide +kernel
theorem dX7_standsDown_41 : decode cX7_standsDown 41 = .ok (.aload_n 0, 1) := by decide +kernel
theorem dX7_standsDown_42 : decode cX7_standsDown 42 = .ok (.iload 5, 2) := by decide +kernel
theorem dX7_standsDown_44 : decode cX7_standsDown 44 = .ok (.iload_n 3, 1) := by decide +kernel
theorem dX7_standsDown_45 : decode cX7_standsDown 45 = .ok (.invokevirtual 183, 3) := by decide +kernel
theorem dX7_standsDown_48 : decode cX7_standsDown 48 = .ok (.ifCond .eq 7, 3) := by decide +kernel
theorem dX7_standsDown_51 : decode cX7_standsDown 51 = .ok (.iconst 1, 1) := by decide +kernel
theorem dX7_standsDown_52 : decode cX7_standsDown 52 = .ok (.goto 4, 3) := by decide +kernel
theorem dX7_standsDown_55 : decode cX7_standsDown 55 = .ok (.iconst 0, 1) := by decide +kernel
theorem dX7_standsDown_56 : decode cX7_standsDown 56 = .ok (.iadd, 1) := by decide +kernel
theorem dX7_standsDown_57 : decode cX7_standsDown 57 = .ok (.istore 4, 2) := by decide +kernel
theorem dX7_standsDown_59 : decode cX7_standsDown 59 = .ok (.iinc 5 1, 3) := by decide +kernel
theorem dX7_standsDown_62 : decode cX7_standsDown 62 = .ok (.goto (-44), 3) := by decide +kernel
theorem dX7_standsDown_65 : decode cX7_standsDown 65 = .ok (.aload_n 0, 1) := by decide +kernel
theorem dX7_standsDown_66 : decode cX7_standsDown 66 = .ok (.getfield 65, 3) := by decide +kernel
theorem dX7_standsDown_69 : decode cX7_standsDown 69 = .ok (.iload_n 3, 1) := by decide +kernel
theorem dX7_standsDown_70 : decode cX7_standsDown 70 = .ok (.iload 4, 2) := by decide +kernel
theorem dX7_standsDown_72 : decode cX7_standsDown 72 = .ok (.iastore, 1) := by decide +kernel
theorem dX7_standsDown_73 : decode cX7_standsDown 73 = .ok (.iload_n 3, 1) := by decide +kernel
theorem dX7_standsDown_74 : decode cX7_standsDown 74 = .ok (.iload_n 1, 1) := by decide +kernel
theorem dX7_standsDown_75 : decode cX7_standsDown 75 = .ok (.if_icmp .eq 14, 3) := by decide +kernel
theorem dX7_standsDown_78 : decode cX7_standsDown 78 = .ok (.aload_n 0, 1) := by decide +kernel
theorem dX7_standsDown_79 : decode cX7_standsDown 79 = .ok (.getfield 62, 3) := by decide +kernel
theorem dX7_standsDown_82 : decode cX7_standsDown 82 = .ok (.iload 4, 2) := by decide +kernel
theorem dX7_standsDown_84 : decode cX7_standsDown 84 = .ok (.iload_n 3, 1) := by decide +kernel
theorem dX7_standsDown_85 : decode cX7_standsDown 85 = .ok (.iastore, 1) := by decide +kernel
theorem dX7_standsDown_86 : decode cX7_standsDown 86 = .ok (.iinc 2 1, 3) := by decide +kernel
theorem dX7_standsDown_89 : decode cX7_standsDown 89 = .ok (.iinc 3 1, 3) := by decide +kernel
theorem dX7_standsDown_92 : decode cX7_standsDown 92 = .ok (.goto (-88), 3) := by decide +kernel
theorem dX7_standsDown_95 : decode cX7_standsDown 95 = .ok (.iload_n 2, 1) := by decide +kernel
theorem dX7_standsDown_96 : decode cX7_standsDown 96 = .ok (.ireturn, 1) := by decide +kernel
set_option maxRecDepth 20000 in
theorem ggX7_begins_X7_likesOf : GoodIn wsX7_begins wsX7_likesOf := goodIn_q _ [15, 21, 27, 35, 38] [16, 17, 18, 19, 20, 14, 22, 23, 24, 25, 26, 28, 29, 30, 31, 32, 33, 34, 36, 37, 43, 44, 45, 46, 47, 48, 49, 50, 51, 52, 53, 54, 55, 56, 57, 58, 59, 60, 61, 62, 63, 64, 65, 66, 67, 68, 69, 70, 71, 72, 73, 74, 75, 76, 77, 78, 79, 80, 81, 82, 83, 84, 85] rfl (by decide +kernel) (by decide +kernel)
set_option maxRecDepth 20000 in
theorem gX7_begins_X7_likesOf : GoodIn wsX7_begins (wsV RX7 187 RX7 yX7_likesOf wsX7_likesOf) := goodIn_app (goodIn_of _ (by decide +kernel)) ggX7_begins_X7_likesOf
set_option maxRecDepth 20000 in
theorem ggX7_begins_X7_mindsOf : GoodIn wsX7_begins wsX7_mindsOf := goodIn_q _ [42] [16, 17, 43, 44, 45, 46, 47, 48, 49, 50, 51, 52, 53, 54, 55, 56, 57, 58, 59, 60, 61, 62, 63, 64, 65, 66, 67, 68, 69, 70, 71, 72, 73, 74, 75, 76, 77, 78, 79, 80, 81, 82, 83, 84, 85] rfl (by decide +kernel) (by decide +kernel)
set_option maxRecDepth 20000 in
theorem gX7_begins_X7_mindsOf : GoodIn wsX7_begins (wsV RX7 191 RX7 yX7_mindsOf wsX7_mindsOf) := goodIn_app (goodIn_of _ (by decide +kernel)) ggX7_begins_X7_mindsOf
theorem dX7_begins_0 : decode cX7_begins 0 = .ok (.aload_n 0, 1) := by decide +kernel
theorem dX7_begins_1 : decode cX7_begins 1 = .ok (.getfield 68, 3) := by decide +kernel
theorem dX7_begins_4 : decode cX7_begins 4 = .ok (.iload_n 1, 1) := by decide +kernel
theorem dX7_begins_5 : decode cX7_begins 5 = .ok (.iload_n 2, 1) := by decide +kernel
theorem dX7_begins_6 : decode cX7_begins 6 = .ok (.iastore, 1) := by decide +kernel
theorem dX7_begins_7 : decode cX7_begins 7 = .ok (.aload_n 0, 1) := by decide +kernel
theorem dX7_begins_8 : decode cX7_begins 8 = .ok (.getfield 71, 3) := by decide +kernel
theorem dX7_begins_11 : decode cX7_begins 11 = .ok (.iload_n 1, 1) := by decide +kernel
theorem dX7_begins_12 : decode cX7_begins 12 = .ok (.iload_n 3, 1) := by decide +kernel
theorem dX7_begins_13 : decode cX7_begins 13 = .ok (.iastore, 1) := by decide +kernel
theorem dX7_begins_14 : decode cX7_begins 14 = .ok (.aload_n 0, 1) := by decide +kernel
theorem dX7_begins_15 : decode cX7_begins 15 = .ok (.getfield 74, 3) := by decide +kernel
theorem dX7_begins_18 : decode cX7_begins 18 = .ok (.iload_n 1, 1) := by decide +kernel
theorem dX7_begins_19 : decode cX7_begins 19 = .ok (.iload_n 3, 1) := by decide +kernel
theorem dX7_begins_20 : decode cX7_begins 20 = .ok (.aload_n 0, 1) := by decide +kernel
theorem dX7_begins_21 : decode cX7_begins 21 = .ok (.iload_n 1, 1) := by decide +kernel
theorem dX7_begins_22 : decode cX7_begins 22 = .ok (.iload_n 3, 1) := by decide +kernel
theorem dX7_begins_23 : decode cX7_begins 23 = .ok (.iload_n 2, 1) := by decide +kernel
theorem dX7_begins_24 : decode cX7_begins 24 = .ok (.aload_n 0, 1) := by decide +kernel
theorem dX7_begins_25 : decode cX7_begins 25 = .ok (.getfield 65, 3) := by decide +kernel
theorem dX7_begins_28 : decode cX7_begins 28 = .ok (.iload_n 1, 1) := by decide +kernel
theorem dX7_begins_29 : decode cX7_begins 29 = .ok (.iaload, 1) := by decide +kernel
theorem dX7_begins_30 : decode cX7_begins 30 = .ok (.invokevirtual 187, 3) := by decide +kernel
theorem dX7_begins_33 : decode cX7_begins 33 = .ok (.isub, 1) := by decide +kernel
theorem dX7_begins_34 : decode cX7_begins 34 = .ok (.iastore, 1) := by decide +kernel
theorem dX7_begins_35 : decode cX7_begins 35 = .ok (.aload_n 0, 1) := by decide +kernel
theorem dX7_begins_36 : decode cX7_begins 36 = .ok (.getfield 77, 3) := by decide +kernel
theorem dX7_begins_39 : decode cX7_begins 39 = .ok (.iload_n 1, 1) := by decide +kernel
theorem dX7_begins_40 : decode cX7_begins 40 = .ok (.aload_n 0, 1) := by decide +kernel
theorem dX7_begins_41 : decode cX7_begins 41 = .ok (.iload_n 1, 1) := by decide +kernel
theorem dX7_begins_42 : decode cX7_begins 42 = .ok (.aload_n 0, 1) := by decide +kernel
theorem dX7_begins_43 : decode cX7_begins 43 = .ok (.getfield 74, 3) := by decide +kernel
theorem dX7_begins_46 : decode cX7_begins 46 = .ok (.iload_n 1, 1) := by decide +kernel
theorem dX7_begins_47 : decode cX7_begins 47 = .ok (.iaload, 1) := by decide +kernel
theorem dX7_begins_48 : decode cX7_begins 48 = .ok (.invokevirtual 191, 3) := by decide +kernel
theorem dX7_begins_51 : decode cX7_begins 51 = .ok (.iastore, 1) := by decide +kernel
theorem dX7_begins_52 : decode cX7_begins 52 = .ok (.aload_n 0, 1) := by decide +kernel
theorem dX7_begins_53 : decode cX7_begins 53 = .ok (.iload_n 1, 1) := by decide +kernel
theorem dX7_begins_54 : decode cX7_begins 54 = .ok (.putfield 194, 3) := by decide +kernel
theorem dX7_begins_57 : decode cX7_begins 57 = .ok (.aload_n 0, 1) := by decide +kernel
theorem dX7_begins_58 : decode cX7_begins 58 = .ok (.iload_n 2, 1) := by decide +kernel
theorem dX7_begins_59 : decode cX7_begins 59 = .ok (.putfield 197, 3) := by decide +kernel
theorem dX7_begins_62 : decode cX7_begins 62 = .ok (.aload_n 0, 1) := by decide +kernel
theorem dX7_begins_63 : decode cX7_begins 63 = .ok (.dup, 1) := by decide +kernel
theorem dX7_begins_64 : decode cX7_begins 64 = .ok (.getfield 200, 3) := by decide +kernel
theorem dX7_begins_67 : decode cX7_begins 67 = .ok (.aload_n 0, 1) := by decide +kernel
theorem dX7_begins_68 : decode cX7_begins 68 = .ok (.getfield 77, 3) := by decide +kernel
theorem dX7_begins_71 : decode cX7_begins 71 = .ok (.iload_n 1, 1) := by decide +kernel
theorem dX7_begins_72 : decode cX7_begins 72 = .ok (.iaload, 1) := by decide +kernel
theorem dX7_begins_73 : decode cX7_begins 73 = .ok (.iadd, 1) := by decide +kernel
theorem dX7_begins_74 : decode cX7_begins 74 = .ok (.putfield 200, 3) := by decide +kernel
theorem dX7_begins_77 : decode cX7_begins 77 = .ok (.aload_n 0, 1) := by decide +kernel
theorem dX7_begins_78 : decode cX7_begins 78 = .ok (.dup, 1) := by decide +kernel
theorem dX7_begins_79 : decode cX7_begins 79 = .ok (.getfield 203, 3) := by decide +kernel
theorem dX7_begins_82 : decode cX7_begins 82 = .ok (.iload_n 3, 1) := by decide +kernel
theorem dX7_begins_83 : decode cX7_begins 83 = .ok (.iadd, 1) := by decide +kernel
theorem dX7_begins_84 : decode cX7_begins 84 = .ok (.putfield 203, 3) := by decide +kernel
theorem dX7_begins_87 : decode cX7_begins 87 = .ok (.aload_n 0, 1) := by decide +kernel
theorem dX7_begins_88 : decode cX7_begins 88 = .ok (.dup, 1) := by decide +kernel
theorem dX7_begins_89 : decode cX7_begins 89 = .ok (.getfield 206, 3) := by decide +kernel
theorem dX7_begins_92 : decode cX7_begins 92 = .ok (.iconst 1, 1) := by decide +kernel
theorem dX7_begins_93 : decode cX7_begins 93 = .ok (.iadd, 1) := by decide +kernel
theorem dX7_begins_94 : decode cX7_begins 94 = .ok (.putfield 206, 3) := by decide +kernel
theorem dX7_begins_97 : decode cX7_begins 97 = .ok (.return_, 1) := by decide +kernel
set_option maxRecDepth 20000 in
theorem ggX7_sups_X7_standsDown : GoodIn wsX7_sups wsX7_standsDown := goodIn_q _ [17, 22] [18, 12, 11, 19, 20, 21, 16, 23, 63, 64, 65, 66, 67, 68, 69, 70, 71, 72, 73, 74, 75, 76, 77, 78, 79, 80, 81, 82, 83, 84, 85, 86, 87, 88, 89, 90, 91, 92, 93, 94, 95, 96, 97, 98, 99, 100, 101, 102, 103, 104, 105] rfl (by decide +kernel) (by decide +kernel)
set_option maxRecDepth 20000 in
theorem gX7_sups_X7_standsDown : GoodIn wsX7_sups (wsV RX7 209 RX7 yX7_standsDown wsX7_standsDown) := goodIn_app (goodIn_of _ (by decide +kernel)) ggX7_sups_X7_standsDown
set_option maxRecDepth 20000 in
theorem ggX7_sups_X7_begins : GoodIn wsX7_sups wsX7_begins := goodIn_q _ [27, 31, 37, 42, 50, 53, 57] [1, 2, 3, 12, 4, 5, 6, 7, 8, 9, 28, 29, 30, 16, 32, 33, 34, 35, 36, 38, 23, 39, 40, 41, 43, 44, 45, 46, 47, 48, 49, 51, 52, 54, 55, 56, 63, 64, 65, 66, 67, 68, 69, 70, 71, 72, 73, 74, 75, 76, 77, 78, 79, 80, 81, 82, 83, 84, 85, 86, 87, 88, 89, 90, 91, 92, 93, 94, 95, 96, 97, 98, 99, 100, 101, 102, 103, 104, 105] rfl (by decide +kernel) (by decide +kernel)
set_option maxRecDepth 20000 in
theorem gX7_sups_X7_begins : GoodIn wsX7_sups (wsV RX7 212 RX7 yX7_begins wsX7_begins) := goodIn_app (goodIn_of _ (by decide +kernel)) ggX7_sups_X7_begins
set_option maxRecDepth 20000 in
theorem ggX7_sups_X7_waitsOf : GoodIn wsX7_sups wsX7_waitsOf := goodIn_q _ [61, 37, 42, 50, 53] [32, 33, 62, 34, 35, 36, 16, 38, 23, 39, 40, 41, 43, 44, 45, 46, 47, 48, 49, 51, 52, 63, 64, 65, 66, 67, 68, 69, 70, 71, 72, 73, 74, 75, 76, 77, 78, 79, 80, 81, 82, 83, 84, 85, 86, 87, 88, 89, 90, 91, 92, 93, 94, 95, 96, 97, 98, 99, 100, 101, 102, 103, 104, 105] rfl (by decide +kernel) (by decide +kernel)
set_option maxRecDepth 20000 in
theorem gX7_sups_X7_waitsOf : GoodIn wsX7_sups (wsV RX7 216 RX7 yX7_waitsOf wsX7_waitsOf) := goodIn_app (goodIn_of _ (by decide +kernel)) ggX7_sups_X7_waitsOf
set_option maxRecDepth 20000 in
theorem ggX7_sups_X7_asksOf : GoodIn wsX7_sups wsX7_asksOf := goodIn_q _ [37, 42, 50, 53] [38, 23, 33, 39, 40, 41, 16, 43, 44, 45, 46, 47, 48, 49, 51, 52, 63, 64, 65, 66, 67, 68, 69, 70, 71, 72, 73, 74, 75, 76, 77, 78, 79, 80, 81, 82, 83, 84, 85, 86, 87, 88, 89, 90, 91, 92, 93, 94, 95, 96, 97, 98, 99, 100, 101, 102, 103, 104, 105] rfl (by decide +kernel) (by decide +kernel)
set_option maxRecDepth 20000 in
theorem gX7_sups_X7_asksOf : GoodIn wsX7_sups (wsV RX7 179 RX7 yX7_asksOf wsX7_asksOf) := goodIn_app (goodIn_of _ (by decide +kernel)) ggX7_sups_X7_asksOf
theorem dX7_sups_0 : decode cX7_sups 0 = .ok (.aload_n 0, 1) := by decide +kernel
theorem dX7_sups_1 : decode cX7_sups 1 = .ok (.iload_n 1, 1) := by decide +kernel
theorem dX7_sups_2 : decode cX7_sups 2 = .ok (.invokevirtual 209, 3) := by decide +kernel
theorem dX7_sups_5 : decode cX7_sups 5 = .ok (.istore_n 2, 1) := by decide +kernel
theorem dX7_sups_6 : decode cX7_sups 6 = .ok (.iconst 0, 1) := by decide +kernel
theorem dX7_sups_7 : decode cX7_sups 7 = .ok (.istore_n 3, 1) := by decide +kernel
theorem dX7_sups_8 : decode cX7_sups 8 = .ok (.iload_n 3, 1) := by decide +kernel
theorem dX7_sups_9 : decode cX7_sups 9 = .ok (.bipush 6, 2) := by decide +kernel
theorem dX7_sups_11 : decode cX7_sups 11 = .ok (.if_icmp .ge 41, 3) := by decide +kernel
theorem dX7_sups_14 : decode cX7_sups 14 = .ok (.aload_n 0, 1) := by decide +kernel
theorem dX7_sups_15 : decode cX7_sups 15 = .ok (.getfield 68, 3) := by decide +kernel
theorem dX7_sups_18 : decode cX7_sups 18 = .ok (.iload_n 3, 1) := by decide +kernel
theorem dX7_sups_19 : decode cX7_sups 19 = .ok (.iconst (-1), 1) := by decide +kernel
theorem dX7_sups_20 : decode cX7_sups 20 = .ok (.iastore, 1) := by decide +kernel
theorem dX7_sups_21 : decode cX7_sups 21 = .ok (.aload_n 0, 1) := by decide +kernel
theorem dX7_sups_22 : decode cX7_sups 22 = .ok (.getfield 71, 3) := by decide +kernel
theorem dX7_sups_25 : decode cX7_sups 25 = .ok (.iload_n 3, 1) := by decide +kernel
theorem dX7_sups_26 : decode cX7_sups 26 = .ok (.iconst (-1), 1) := by decide +kernel
theorem dX7_sups_27 : decode cX7_sups 27 = .ok (.iastore, 1) := by decide +kernel
theorem dX7_sups_28 : decode cX7_sups 28 = .ok (.aload_n 0, 1) := by decide +kernel
theorem dX7_sups_29 : decode cX7_sups 29 = .ok (.getfield 74, 3) := by decide +kernel
theorem dX7_sups_32 : decode cX7_sups 32 = .ok (.iload_n 3, 1) := by decide +kernel
theorem dX7_sups_33 : decode cX7_sups 33 = .ok (.sipush (-6000), 3) := by decide +kernel
theorem dX7_sups_36 : decode cX7_sups 36 = .ok (.iastore, 1) := by decide +kernel
theorem dX7_sups_37 : decode cX7_sups 37 = .ok (.aload_n 0, 1) := by decide +kernel
theorem dX7_sups_38 : decode cX7_sups 38 = .ok (.getfield 77, 3) := by decide +kernel
theorem dX7_sups_41 : decode cX7_sups 41 = .ok (.iload_n 3, 1) := by decide +kernel
theorem dX7_sups_42 : decode cX7_sups 42 = .ok (.sipush (-6000), 3) := by decide +kernel
theorem dX7_sups_45 : decode cX7_sups 45 = .ok (.iastore, 1) := by decide +kernel
theorem dX7_sups_46 : decode cX7_sups 46 = .ok (.iinc 3 1, 3) := by decide +kernel
theorem dX7_sups_49 : decode cX7_sups 49 = .ok (.goto (-41), 3) := by decide +kernel
theorem dX7_sups_52 : decode cX7_sups 52 = .ok (.aload_n 0, 1) := by decide +kernel
theorem dX7_sups_53 : decode cX7_sups 53 = .ok (.iconst (-1), 1) := by decide +kernel
theorem dX7_sups_54 : decode cX7_sups 54 = .ok (.putfield 194, 3) := by decide +kernel
theorem dX7_sups_57 : decode cX7_sups 57 = .ok (.aload_n 0, 1) := by decide +kernel
theorem dX7_sups_58 : decode cX7_sups 58 = .ok (.iconst (-1), 1) := by decide +kernel
theorem dX7_sups_59 : decode cX7_sups 59 = .ok (.putfield 197, 3) := by decide +kernel
theorem dX7_sups_62 : decode cX7_sups 62 = .ok (.aload_n 0, 1) := by decide +kernel
theorem dX7_sups_63 : decode cX7_sups 63 = .ok (.iconst 0, 1) := by decide +kernel
theorem dX7_sups_64 : decode cX7_sups 64 = .ok (.putfield 200, 3) := by decide +kernel
theorem dX7_sups_67 : decode cX7_sups 67 = .ok (.aload_n 0, 1) := by decide +kernel
theorem dX7_sups_68 : decode cX7_sups 68 = .ok (.iconst 0, 1) := by decide +kernel
theorem dX7_sups_69 : decode cX7_sups 69 = .ok (.putfield 203, 3) := by decide +kernel
theorem dX7_sups_72 : decode cX7_sups 72 = .ok (.aload_n 0, 1) := by decide +kernel
theorem dX7_sups_73 : decode cX7_sups 73 = .ok (.iconst 0, 1) := by decide +kernel
theorem dX7_sups_74 : decode cX7_sups 74 = .ok (.putfield 206, 3) := by decide +kernel
theorem dX7_sups_77 : decode cX7_sups 77 = .ok (.iconst 0, 1) := by decide +kernel
theorem dX7_sups_78 : decode cX7_sups 78 = .ok (.istore_n 3, 1) := by decide +kernel
theorem dX7_sups_79 : decode cX7_sups 79 = .ok (.aload_n 0, 1) := by decide +kernel
theorem dX7_sups_80 : decode cX7_sups 80 = .ok (.getfield 19, 3) := by decide +kernel
theorem dX7_sups_83 : decode cX7_sups 83 = .ok (.istore 4, 2) := by decide +kernel
theorem dX7_sups_85 : decode cX7_sups 85 = .ok (.iconst 0, 1) := by decide +kernel
theorem dX7_sups_86 : decode cX7_sups 86 = .ok (.istore 5, 2) := by decide +kernel
theorem dX7_sups_88 : decode cX7_sups 88 = .ok (.iload 5, 2) := by decide +kernel
theorem dX7_sups_90 : decode cX7_sups 90 = .ok (.iload_n 2, 1) := by decide +kernel
theorem dX7_sups_91 : decode cX7_sups 91 = .ok (.if_icmp .ge 114, 3) := by decide +kernel
theorem dX7_sups_94 : decode cX7_sups 94 = .ok (.iload_n 3, 1) := by decide +kernel
theorem dX7_sups_95 : decode cX7_sups 95 = .ok (.bipush 60, 2) := by decide +kernel
theorem dX7_sups_97 : decode cX7_sups 97 = .ok (.if_icmp .gt 108, 3) := by decide +kernel
theorem dX7_sups_100 : decode cX7_sups 100 = .ok (.aload_n 0, 1) := by decide +kernel
theorem dX7_sups_101 : decode cX7_sups 101 = .ok (.getfield 62, 3) := by decide +kernel
theorem dX7_sups_104 : decode cX7_sups 104 = .ok (.iload 5, 2) := by decide +kernel
theorem dX7_sups_106 : decode cX7_sups 106 = .ok (.iaload, 1) := by decide +kernel
theorem dX7_sups_107 : decode cX7_sups 107 = .ok (.istore 6, 2) := by decide +kernel
theorem dX7_sups_109 : decode cX7_sups 109 = .ok (.aload_n 0, 1) := by decide +kernel
theorem dX7_sups_110 : decode cX7_sups 110 = .ok (.iload 6, 2) := by decide +kernel
theorem dX7_sups_112 : decode cX7_sups 112 = .ok (.iload_n 3, 1) := by decide +kernel
theorem dX7_sups_113 : decode cX7_sups 113 = .ok (.iload 4, 2) := by decide +kernel
theorem dX7_sups_115 : decode cX7_sups 115 = .ok (.invokevirtual 212, 3) := by decide +kernel
theorem dX7_sups_118 : decode cX7_sups 118 = .ok (.iload_n 3, 1) := by decide +kernel
theorem dX7_sups_119 : decode cX7_sups 119 = .ok (.aload_n 0, 1) := by decide +kernel
theorem dX7_sups_120 : decode cX7_sups 120 = .ok (.iload 6, 2) := by decide +kernel
theorem dX7_sups_122 : decode cX7_sups 122 = .ok (.iload 4, 2) := by decide +kernel
theorem dX7_sups_124 : decode cX7_sups 124 = .ok (.iload_n 3, 1) := by decide +kernel
theorem dX7_sups_125 : decode cX7_sups 125 = .ok (.aload_n 0, 1) := by decide +kernel
theorem dX7_sups_126 : decode cX7_sups 126 = .ok (.getfield 65, 3) := by decide +kernel
theorem dX7_sups_129 : decode cX7_sups 129 = .ok (.iload 6, 2) := by decide +kernel
theorem dX7_sups_131 : decode cX7_sups 131 = .ok (.iaload, 1) := by decide +kernel
theorem dX7_sups_132 : decode cX7_sups 132 = .ok (.invokevirtual 216, 3) := by decide +kernel
theorem dX7_sups_135 : decode cX7_sups 135 = .ok (.iadd, 1) := by decide +kernel
theorem dX7_sups_136 : decode cX7_sups 136 = .ok (.istore 7, 2) := by decide +kernel
theorem dX7_sups_138 : decode cX7_sups 138 = .ok (.iload 7, 2) := by decide +kernel
theorem dX7_sups_140 : decode cX7_sups 140 = .ok (.bipush 60, 2) := by decide +kernel
theorem dX7_sups_142 : decode cX7_sups 142 = .ok (.if_icmp .gt 54, 3) := by decide +kernel
theorem dX7_sups_145 : decode cX7_sups 145 = .ok (.iload_n 3, 1) := by decide +kernel
theorem dX7_sups_146 : decode cX7_sups 146 = .ok (.istore 8, 2) := by decide +kernel
theorem dX7_sups_148 : decode cX7_sups 148 = .ok (.iload 8, 2) := by decide +kernel
theorem dX7_sups_150 : decode cX7_sups 150 = .ok (.iload 7, 2) := by decide +kernel
theorem dX7_sups_152 : decode cX7_sups 152 = .ok (.if_icmp .ge 44, 3) := by decide +kernel
theorem dX7_sups_155 : decode cX7_sups 155 = .ok (.iload 4, 2) := by decide +kernel
theorem dX7_sups_157 : decode cX7_sups 157 = .ok (.aload_n 0, 1) := by decide +kernel
theorem dX7_sups_158 : decode cX7_sups 158 = .ok (.iconst 0, 1) := by decide +kernel
theorem dX7_sups_159 : decode cX7_sups 159 = .ok (.iconst (-1), 1) := by decide +kernel
theorem dX7_sups_160 : decode cX7_sups 160 = .ok (.iload 4, 2) := by decide +kernel
theorem dX7_sups_162 : decode cX7_sups 162 = .ok (.iload 8, 2) := by decide +kernel
theorem dX7_sups_164 : decode cX7_sups 164 = .ok (.aload_n 0, 1) := by decide +kernel
theorem dX7_sups_165 : decode cX7_sups 165 = .ok (.getfield 65, 3) := by decide +kernel
theorem dX7_sups_168 : decode cX7_sups 168 = .ok (.iload 6, 2) := by decide +kernel
theorem dX7_sups_170 : decode cX7_sups 170 = .ok (.iaload, 1) := by decide +kernel
theorem dX7_sups_171 : decode cX7_sups 171 = .ok (.invokevirtual 179, 3) := by decide +kernel
theorem dX7_sups_174 : decode cX7_sups 174 = .ok (.isub, 1) := by decide +kernel
theorem dX7_sups_175 : decode cX7_sups 175 = .ok (.istore 9, 2) := by decide +kernel
theorem dX7_sups_177 : decode cX7_sups 177 = .ok (.iload 9, 2) := by decide +kernel
theorem dX7_sups_179 : decode cX7_sups 179 = .ok (.ifCond .ge 7, 3) := by decide +kernel
theorem dX7_sups_182 : decode cX7_sups 182 = .ok (.iconst 0, 1) := by decide +kernel
theorem dX7_sups_183 : decode cX7_sups 183 = .ok (.goto 5, 3) := by decide +kernel
theorem dX7_sups_186 : decode cX7_sups 186 = .ok (.iload 9, 2) := by decide +kernel
theorem dX7_sups_188 : decode cX7_sups 188 = .ok (.istore 4, 2) := by decide +kernel
theorem dX7_sups_190 : decode cX7_sups 190 = .ok (.iinc 8 1, 3) := by decide +kernel
theorem dX7_sups_193 : decode cX7_sups 193 = .ok (.goto (-45), 3) := by decide +kernel
theorem dX7_sups_196 : decode cX7_sups 196 = .ok (.iload 7, 2) := by decide +kernel
theorem dX7_sups_198 : decode cX7_sups 198 = .ok (.istore_n 3, 1) := by decide +kernel
theorem dX7_sups_199 : decode cX7_sups 199 = .ok (.iinc 5 1, 3) := by decide +kernel
theorem dX7_sups_202 : decode cX7_sups 202 = .ok (.goto (-114), 3) := by decide +kernel
theorem dX7_sups_205 : decode cX7_sups 205 = .ok (.return_, 1) := by decide +kernel
set_option maxRecDepth 20000 in
theorem ggX7_told_X7_isOne : GoodIn wsX7_told wsX7_isOne := goodIn_q _ [13, 17] [14, 15, 16, 12, 74, 75, 76, 77, 78, 79, 80, 81, 82, 83, 84, 85, 86, 87, 88, 89, 90, 91, 92, 93, 94, 95, 96, 97, 98, 99, 100, 101, 102, 103, 104, 105, 106, 107, 108, 109, 110, 111, 112, 113, 114, 115, 116] rfl (by decide +kernel) (by decide +kernel)
set_option maxRecDepth 20000 in
theorem gX7_told_X7_isOne : GoodIn wsX7_told (wsV RX7 176 RX7 yX7_isOne wsX7_isOne) := goodIn_app (goodIn_of _ (by decide +kernel)) ggX7_told_X7_isOne
set_option maxRecDepth 20000 in
theorem ggX7_told_X7_in : GoodIn wsX7_told wsX7_in := goodIn_q _ [17] [] rfl (by decide +kernel) (by decide +kernel)
set_option maxRecDepth 20000 in
theorem gX7_told_X7_in : GoodIn wsX7_told (va_wsS RX7 93 yX7_in wsX7_in) := goodIn_app (goodIn_of _ (by decide +kernel)) ggX7_told_X7_in
set_option maxRecDepth 20000 in
theorem ggX7_told_X7_sups : GoodIn wsX7_told wsX7_sups := goodIn_q _ [21, 32, 36, 40, 44, 48, 53, 61, 64, 68, 72] [5, 6, 7, 8, 22, 23, 24, 25, 26, 27, 28, 4, 29, 30, 31, 12, 14, 33, 34, 35, 1, 37, 38, 39, 41, 42, 43, 2, 3, 45, 46, 47, 49, 50, 51, 52, 54, 55, 56, 57, 58, 59, 60, 62, 63, 65, 66, 67, 69, 70, 71, 73, 74, 75, 76, 77, 78, 79, 80, 81, 82, 83, 84, 85, 86, 87, 88, 89, 90, 91, 92, 93, 94, 95, 96, 97, 98, 99, 100, 101, 102, 103, 104, 105, 106, 107, 108, 109, 110, 111, 112, 113, 114, 115, 116] rfl (by decide +kernel) (by decide +kernel)
set_option maxRecDepth 20000 in
theorem gX7_told_X7_sups : GoodIn wsX7_told (wsV RX7 219 RX7 yX7_sups wsX7_sups) := goodIn_app (goodIn_of _ (by decide +kernel)) ggX7_told_X7_sups
theorem dX7_told_0 : decode cX7_told 0 = .ok (.aload_n 0, 1) := by decide +kernel
theorem dX7_told_1 : decode cX7_told 1 = .ok (.iload_n 1, 1) := by decide +kernel
theorem dX7_told_2 : decode cX7_told 2 = .ok (.invokevirtual 176, 3) := by decide +kernel
theorem dX7_told_5 : decode cX7_told 5 = .ok (.ifCond .ne 7, 3) := by decide +kernel
theorem dX7_told_8 : decode cX7_told 8 = .ok (.sipush (-5000), 3) := by decide +kernel
theorem dX7_told_11 : decode cX7_told 11 = .ok (.ireturn, 1) := by decide +kernel
theorem dX7_told_12 : decode cX7_told 12 = .ok (.iload_n 2, 1) := by decide +kernel
theorem dX7_told_13 : decode cX7_told 13 = .ok (.iconst 0, 1) := by decide +kernel
theorem dX7_told_14 : decode cX7_told 14 = .ok (.bipush 8, 2) := by decide +kernel
theorem dX7_told_16 : decode cX7_told 16 = .ok (.invokestatic 93, 3) := by decide +kernel
theorem dX7_told_19 : decode cX7_told 19 = .ok (.ifCond .ne 7, 3) := by decide +kernel
theorem dX7_told_22 : decode cX7_told 22 = .ok (.sipush (-7000), 3) := by decide +kernel
theorem dX7_told_25 : decode cX7_told 25 = .ok (.ireturn, 1) := by decide +kernel
theorem dX7_told_26 : decode cX7_told 26 = .ok (.aload_n 0, 1) := by decide +kernel
theorem dX7_told_27 : decode cX7_told 27 = .ok (.iconst (-1), 1) := by decide +kernel
theorem dX7_told_28 : decode cX7_told 28 = .ok (.invokevirtual 219, 3) := by decide +kernel
theorem dX7_told_31 : decode cX7_told 31 = .ok (.iload_n 2, 1) := by decide +kernel
theorem dX7_told_32 : decode cX7_told 32 = .ok (.tableswitch 101 0 7 #[48, 48, 59, 66, 73, 80, 87, 94], 48) := by decide +kernel
theorem dX7_told_80 : decode cX7_told 80 = .ok (.aload_n 0, 1) := by decide +kernel
theorem dX7_told_81 : decode cX7_told 81 = .ok (.getfield 16, 3) := by decide +kernel
theorem dX7_told_84 : decode cX7_told 84 = .ok (.iconst 2, 1) := by decide +kernel
theorem dX7_told_85 : decode cX7_told 85 = .ok (.iload_n 1, 1) := by decide +kernel
theorem dX7_told_86 : decode cX7_told 86 = .ok (.imul, 1) := by decide +kernel
theorem dX7_told_87 : decode cX7_told 87 = .ok (.iload_n 2, 1) := by decide +kernel
theorem dX7_told_88 : decode cX7_told 88 = .ok (.iadd, 1) := by decide +kernel
theorem dX7_told_89 : decode cX7_told 89 = .ok (.iaload, 1) := by decide +kernel
theorem dX7_told_90 : decode cX7_told 90 = .ok (.ireturn, 1) := by decide +kernel
theorem dX7_told_91 : decode cX7_told 91 = .ok (.aload_n 0, 1) := by decide +kernel
theorem dX7_told_92 : decode cX7_told 92 = .ok (.getfield 7, 3) := by decide +kernel
theorem dX7_told_95 : decode cX7_told 95 = .ok (.iload_n 1, 1) := by decide +kernel
theorem dX7_told_96 : decode cX7_told 96 = .ok (.iaload, 1) := by decide +kernel
theorem dX7_told_97 : decode cX7_told 97 = .ok (.ireturn, 1) := by decide +kernel
theorem dX7_told_98 : decode cX7_told 98 = .ok (.aload_n 0, 1) := by decide +kernel
theorem dX7_told_99 : decode cX7_told 99 = .ok (.getfield 13, 3) := by decide +kernel
theorem dX7_told_102 : decode cX7_told 102 = .ok (.iload_n 1, 1) := by decide +kernel
theorem dX7_told_103 : decode cX7_told 103 = .ok (.iaload, 1) := by decide +kernel
theorem dX7_told_104 : decode cX7_told 104 = .ok (.ireturn, 1) := by decide +kernel
theorem dX7_told_105 : decode cX7_told 105 = .ok (.aload_n 0, 1) := by decide +kernel
theorem dX7_told_106 : decode cX7_told 106 = .ok (.getfield 65, 3) := by decide +kernel
theorem dX7_told_109 : decode cX7_told 109 = .ok (.iload_n 1, 1) := by decide +kernel
theorem dX7_told_110 : decode cX7_told 110 = .ok (.iaload, 1) := by decide +kernel
theorem dX7_told_111 : decode cX7_told 111 = .ok (.ireturn, 1) := by decide +kernel
theorem dX7_told_112 : decode cX7_told 112 = .ok (.aload_n 0, 1) := by decide +kernel
theorem dX7_told_113 : decode cX7_told 113 = .ok (.getfield 68, 3) := by decide +kernel
theorem dX7_told_116 : decode cX7_told 116 = .ok (.iload_n 1, 1) := by decide +kernel
theorem dX7_told_117 : decode cX7_told 117 = .ok (.iaload, 1) := by decide +kernel
theorem dX7_told_118 : decode cX7_told 118 = .ok (.ireturn, 1) := by decide +kernel
theorem dX7_told_119 : decode cX7_told 119 = .ok (.aload_n 0, 1) := by decide +kernel
theorem dX7_told_120 : decode cX7_told 120 = .ok (.getfield 71, 3) := by decide +kernel
theorem dX7_told_123 : decode cX7_told 123 = .ok (.iload_n 1, 1) := by decide +kernel
theorem dX7_told_124 : decode cX7_told 124 = .ok (.iaload, 1) := by decide +kernel
theorem dX7_told_125 : decode cX7_told 125 = .ok (.ireturn, 1) := by decide +kernel
theorem dX7_told_126 : decode cX7_told 126 = .ok (.aload_n 0, 1) := by decide +kernel
theorem dX7_told_127 : decode cX7_told 127 = .ok (.getfield 74, 3) := by decide +kernel
theorem dX7_told_130 : decode cX7_told 130 = .ok (.iload_n 1, 1) := by decide +kernel
theorem dX7_told_131 : decode cX7_told 131 = .ok (.iaload, 1) := by decide +kernel
theorem dX7_told_132 : decode cX7_told 132 = .ok (.ireturn, 1) := by decide +kernel
theorem dX7_told_133 : decode cX7_told 133 = .ok (.aload_n 0, 1) := by decide +kernel
theorem dX7_told_134 : decode cX7_told 134 = .ok (.getfield 77, 3) := by decide +kernel
theorem dX7_told_137 : decode cX7_told 137 = .ok (.iload_n 1, 1) := by decide +kernel
theorem dX7_told_138 : decode cX7_told 138 = .ok (.iaload, 1) := by decide +kernel
theorem dX7_told_139 : decode cX7_told 139 = .ok (.ireturn, 1) := by decide +kernel
theorem dX7_neverSet_0 : decode cX7_neverSet 0 = .ok (.iconst 0, 1) := by decide +kernel
theorem dX7_neverSet_1 : decode cX7_neverSet 1 = .ok (.istore_n 1, 1) := by decide +kernel
theorem dX7_neverSet_2 : decode cX7_neverSet 2 = .ok (.iconst 0, 1) := by decide +kernel
theorem dX7_neverSet_3 : decode cX7_neverSet 3 = .ok (.istore_n 2, 1) := by decide +kernel
theorem dX7_neverSet_4 : decode cX7_neverSet 4 = .ok (.iload_n 2, 1) := by decide +kernel
theorem dX7_neverSet_5 : decode cX7_neverSet 5 = .ok (.aload_n 0, 1) := by decide +kernel
theorem dX7_neverSet_6 : decode cX7_neverSet 6 = .ok (.getfield 90, 3) := by decide +kernel
theorem dX7_neverSet_9 : decode cX7_neverSet 9 = .ok (.if_icmp .ge 29, 3) := by decide +kernel
theorem dX7_neverSet_12 : decode cX7_neverSet 12 = .ok (.iload_n 1, 1) := by decide +kernel
theorem dX7_neverSet_13 : decode cX7_neverSet 13 = .ok (.aload_n 0, 1) := by decide +kernel
theorem dX7_neverSet_14 : decode cX7_neverSet 14 = .ok (.getfield 68, 3) := by decide +kernel
theorem dX7_neverSet_17 : decode cX7_neverSet 17 = .ok (.iload_n 2, 1) := by decide +kernel
theorem dX7_neverSet_18 : decode cX7_neverSet 18 = .ok (.iaload, 1) := by decide +kernel
theorem dX7_neverSet_19 : decode cX7_neverSet 19 = .ok (.iconst (-1), 1) := by decide +kernel
theorem dX7_neverSet_20 : decode cX7_neverSet 20 = .ok (.if_icmp .ne 9, 3) := by decide +kernel
theorem dX7_neverSet_23 : decode cX7_neverSet 23 = .ok (.iconst 1, 1) := by decide +kernel
theorem dX7_neverSet_24 : decode cX7_neverSet 24 = .ok (.iload_n 2, 1) := by decide +kernel
theorem dX7_neverSet_25 : decode cX7_neverSet 25 = .ok (.ishl, 1) := by decide +kernel
theorem dX7_neverSet_26 : decode cX7_neverSet 26 = .ok (.goto 4, 3) := by decide +kernel
theorem dX7_neverSet_29 : decode cX7_neverSet 29 = .ok (.iconst 0, 1) := by decide +kernel
theorem dX7_neverSet_30 : decode cX7_neverSet 30 = .ok (.ior, 1) := by decide +kernel
theorem dX7_neverSet_31 : decode cX7_neverSet 31 = .ok (.istore_n 1, 1) := by decide +kernel
theorem dX7_neverSet_32 : decode cX7_neverSet 32 = .ok (.iinc 2 1, 3) := by decide +kernel
theorem dX7_neverSet_35 : decode cX7_neverSet 35 = .ok (.goto (-31), 3) := by decide +kernel
theorem dX7_neverSet_38 : decode cX7_neverSet 38 = .ok (.iload_n 1, 1) := by decide +kernel
theorem dX7_neverSet_39 : decode cX7_neverSet 39 = .ok (.ireturn, 1) := by decide +kernel
theorem dX7_mindsMost_0 : decode cX7_mindsMost 0 = .ok (.iconst (-1), 1) := by decide +kernel
theorem dX7_mindsMost_1 : decode cX7_mindsMost 1 = .ok (.istore_n 1, 1) := by decide +kernel
theorem dX7_mindsMost_2 : decode cX7_mindsMost 2 = .ok (.sipush (-6000), 3) := by decide +kernel
theorem dX7_mindsMost_5 : decode cX7_mindsMost 5 = .ok (.istore_n 2, 1) := by decide +kernel
theorem dX7_mindsMost_6 : decode cX7_mindsMost 6 = .ok (.iconst 0, 1) := by decide +kernel
theorem dX7_mindsMost_7 : decode cX7_mindsMost 7 = .ok (.istore_n 3, 1) := by decide +kernel
theorem dX7_mindsMost_8 : decode cX7_mindsMost 8 = .ok (.iload_n 3, 1) := by decide +kernel
theorem dX7_mindsMost_9 : decode cX7_mindsMost 9 = .ok (.aload_n 0, 1) := by decide +kernel
theorem dX7_mindsMost_10 : decode cX7_mindsMost 10 = .ok (.getfield 90, 3) := by decide +kernel
theorem dX7_mindsMost_13 : decode cX7_mindsMost 13 = .ok (.if_icmp .ge 46, 3) := by decide +kernel
theorem dX7_mindsMost_16 : decode cX7_mindsMost 16 = .ok (.aload_n 0, 1) := by decide +kernel
theorem dX7_mindsMost_17 : decode cX7_mindsMost 17 = .ok (.getfield 77, 3) := by decide +kernel
theorem dX7_mindsMost_20 : decode cX7_mindsMost 20 = .ok (.iload_n 3, 1) := by decide +kernel
theorem dX7_mindsMost_21 : decode cX7_mindsMost 21 = .ok (.iaload, 1) := by decide +kernel
theorem dX7_mindsMost_22 : decode cX7_mindsMost 22 = .ok (.iload_n 2, 1) := by decide +kernel
theorem dX7_mindsMost_23 : decode cX7_mindsMost 23 = .ok (.if_icmp .le 7, 3) := by decide +kernel
theorem dX7_mindsMost_26 : decode cX7_mindsMost 26 = .ok (.iload_n 3, 1) := by decide +kernel
theorem dX7_mindsMost_27 : decode cX7_mindsMost 27 = .ok (.goto 4, 3) := by decide +kernel
theorem dX7_mindsMost_30 : decode cX7_mindsMost 30 = .ok (.iload_n 1, 1) := by decide +kernel
theorem dX7_mindsMost_31 : decode cX7_mindsMost 31 = .ok (.istore_n 1, 1) := by decide +kernel
theorem dX7_mindsMost_32 : decode cX7_mindsMost 32 = .ok (.aload_n 0, 1) := by decide +kernel
theorem dX7_mindsMost_33 : decode cX7_mindsMost 33 = .ok (.getfield 77, 3) := by decide +kernel
theorem dX7_mindsMost_36 : decode cX7_mindsMost 36 = .ok (.iload_n 3, 1) := by decide +kernel
theorem dX7_mindsMost_37 : decode cX7_mindsMost 37 = .ok (.iaload, 1) := by decide +kernel
theorem dX7_mindsMost_38 : decode cX7_mindsMost 38 = .ok (.iload_n 2, 1) := by decide +kernel
theorem dX7_mindsMost_39 : decode cX7_mindsMost 39 = .ok (.if_icmp .le 12, 3) := by decide +kernel
theorem dX7_mindsMost_42 : decode cX7_mindsMost 42 = .ok (.aload_n 0, 1) := by decide +kernel
theorem dX7_mindsMost_43 : decode cX7_mindsMost 43 = .ok (.getfield 77, 3) := by decide +kernel
theorem dX7_mindsMost_46 : decode cX7_mindsMost 46 = .ok (.iload_n 3, 1) := by decide +kernel
theorem dX7_mindsMost_47 : decode cX7_mindsMost 47 = .ok (.iaload, 1) := by decide +kernel
theorem dX7_mindsMost_48 : decode cX7_mindsMost 48 = .ok (.goto 4, 3) := by decide +kernel
theorem dX7_mindsMost_51 : decode cX7_mindsMost 51 = .ok (.iload_n 2, 1) := by decide +kernel
theorem dX7_mindsMost_52 : decode cX7_mindsMost 52 = .ok (.istore_n 2, 1) := by decide +kernel
theorem dX7_mindsMost_53 : decode cX7_mindsMost 53 = .ok (.iinc 3 1, 3) := by decide +kernel
theorem dX7_mindsMost_56 : decode cX7_mindsMost 56 = .ok (.goto (-48), 3) := by decide +kernel
theorem dX7_mindsMost_59 : decode cX7_mindsMost 59 = .ok (.iload_n 1, 1) := by decide +kernel
theorem dX7_mindsMost_60 : decode cX7_mindsMost 60 = .ok (.ireturn, 1) := by decide +kernel
set_option maxRecDepth 20000 in
theorem ggX7_table_X7_in : GoodIn wsX7_table wsX7_in := goodIn_q _ [8] [] rfl (by decide +kernel) (by decide +kernel)
set_option maxRecDepth 20000 in
theorem gX7_table_X7_in : GoodIn wsX7_table (va_wsS RX7 93 yX7_in wsX7_in) := goodIn_app (goodIn_of _ (by decide +kernel)) ggX7_table_X7_in
set_option maxRecDepth 20000 in
theorem ggX7_table_X7_sups : GoodIn wsX7_table wsX7_sups := goodIn_q _ [12, 25, 30, 35, 39, 45, 50, 58, 61, 65, 69] [13, 14, 15, 16, 2, 3, 4, 17, 18, 19, 20, 21, 22, 23, 24, 7, 26, 27, 28, 29, 31, 32, 33, 34, 36, 37, 38, 40, 41, 42, 43, 44, 46, 47, 48, 49, 51, 52, 53, 54, 55, 56, 57, 59, 60, 62, 63, 64, 66, 67, 68, 70, 79, 80, 81, 82, 83, 84, 85, 86, 87, 88, 89, 90, 91, 92, 93, 94, 95, 96, 97, 98, 99, 100, 101, 102, 103, 104, 105, 106, 107, 108, 109, 110, 111, 112, 113, 114, 115, 116, 117, 118, 119, 120, 121] rfl (by decide +kernel) (by decide +kernel)
set_option maxRecDepth 20000 in
theorem gX7_table_X7_sups : GoodIn wsX7_table (wsV RX7 219 RX7 yX7_sups wsX7_sups) := goodIn_app (goodIn_of _ (by decide +kernel)) ggX7_table_X7_sups
set_option maxRecDepth 20000 in
theorem ggX7_table_X7_neverSet : GoodIn wsX7_table wsX7_neverSet := goodIn_q _ [74] [26, 13, 79, 80, 81, 82, 83, 84, 85, 86, 87, 88, 89, 90, 91, 92, 93, 94, 95, 96, 97, 98, 99, 100, 101, 102, 103, 104, 105, 106, 107, 108, 109, 110, 111, 112, 113, 114, 115, 116, 117, 118, 119, 120, 121] rfl (by decide +kernel) (by decide +kernel)
set_option maxRecDepth 20000 in
theorem gX7_table_X7_neverSet : GoodIn wsX7_table (wsV RX7 223 RX7 yX7_neverSet wsX7_neverSet) := goodIn_app (goodIn_of _ (by decide +kernel)) ggX7_table_X7_neverSet
set_option maxRecDepth 20000 in
theorem ggX7_table_X7_mindsMost : GoodIn wsX7_table wsX7_mindsMost := goodIn_q _ [78] [26, 16, 79, 80, 81, 82, 83, 84, 85, 86, 87, 88, 89, 90, 91, 92, 93, 94, 95, 96, 97, 98, 99, 100, 101, 102, 103, 104, 105, 106, 107, 108, 109, 110, 111, 112, 113, 114, 115, 116, 117, 118, 119, 120, 121] rfl (by decide +kernel) (by decide +kernel)
set_option maxRecDepth 20000 in
theorem gX7_table_X7_mindsMost : GoodIn wsX7_table (wsV RX7 226 RX7 yX7_mindsMost wsX7_mindsMost) := goodIn_app (goodIn_of _ (by decide +kernel)) ggX7_table_X7_mindsMost
theorem dX7_table_0 : decode cX7_table 0 = .ok (.iload_n 1, 1) := by decide +kernel
theorem dX7_table_1 : decode cX7_table 1 = .ok (.iconst 0, 1) := by decide +kernel
theorem dX7_table_2 : decode cX7_table 2 = .ok (.iconst 4, 1) := by decide +kernel
theorem dX7_table_3 : decode cX7_table 3 = .ok (.invokestatic 93, 3) := by decide +kernel
theorem dX7_table_6 : decode cX7_table 6 = .ok (.ifCond .ne 6, 3) := by decide +kernel
theorem dX7_table_9 : decode cX7_table 9 = .ok (.ldc 222, 2) := by decide +kernel
theorem dX7_table_11 : decode cX7_table 11 = .ok (.ireturn, 1) := by decide +kernel
theorem dX7_table_12 : decode cX7_table 12 = .ok (.aload_n 0, 1) := by decide +kernel
theorem dX7_table_13 : decode cX7_table 13 = .ok (.iconst (-1), 1) := by decide +kernel
theorem dX7_table_14 : decode cX7_table 14 = .ok (.invokevirtual 219, 3) := by decide +kernel
theorem dX7_table_17 : decode cX7_table 17 = .ok (.iload_n 1, 1) := by decide +kernel
theorem dX7_table_18 : decode cX7_table 18 = .ok (.tableswitch 50 0 3 #[30, 35, 40, 45], 30) := by decide +kernel
theorem dX7_table_48 : decode cX7_table 48 = .ok (.aload_n 0, 1) := by decide +kernel
theorem dX7_table_49 : decode cX7_table 49 = .ok (.getfield 194, 3) := by decide +kernel
theorem dX7_table_52 : decode cX7_table 52 = .ok (.ireturn, 1) := by decide +kernel
theorem dX7_table_53 : decode cX7_table 53 = .ok (.aload_n 0, 1) := by decide +kernel
theorem dX7_table_54 : decode cX7_table 54 = .ok (.getfield 197, 3) := by decide +kernel
theorem dX7_table_57 : decode cX7_table 57 = .ok (.ireturn, 1) := by decide +kernel
theorem dX7_table_58 : decode cX7_table 58 = .ok (.aload_n 0, 1) := by decide +kernel
theorem dX7_table_59 : decode cX7_table 59 = .ok (.getfield 200, 3) := by decide +kernel
theorem dX7_table_62 : decode cX7_table 62 = .ok (.ireturn, 1) := by decide +kernel
theorem dX7_table_63 : decode cX7_table 63 = .ok (.aload_n 0, 1) := by decide +kernel
theorem dX7_table_64 : decode cX7_table 64 = .ok (.invokevirtual 223, 3) := by decide +kernel
theorem dX7_table_67 : decode cX7_table 67 = .ok (.ireturn, 1) := by decide +kernel
theorem dX7_table_68 : decode cX7_table 68 = .ok (.aload_n 0, 1) := by decide +kernel
theorem dX7_table_69 : decode cX7_table 69 = .ok (.invokevirtual 226, 3) := by decide +kernel
theorem dX7_table_72 : decode cX7_table 72 = .ok (.ireturn, 1) := by decide +kernel
theorem dX7_lessFor_0 : decode cX7_lessFor 0 = .ok (.aload_n 0, 1) := by decide +kernel
theorem dX7_lessFor_1 : decode cX7_lessFor 1 = .ok (.getfield 68, 3) := by decide +kernel
theorem dX7_lessFor_4 : decode cX7_lessFor 4 = .ok (.iload_n 1, 1) := by decide +kernel
theorem dX7_lessFor_5 : decode cX7_lessFor 5 = .ok (.iaload, 1) := by decide +kernel
theorem dX7_lessFor_6 : decode cX7_lessFor 6 = .ok (.iconst (-1), 1) := by decide +kernel
theorem dX7_lessFor_7 : decode cX7_lessFor 7 = .ok (.if_icmp .ne 8, 3) := by decide +kernel
theorem dX7_lessFor_10 : decode cX7_lessFor 10 = .ok (.bipush 10, 2) := by decide +kernel
theorem dX7_lessFor_12 : decode cX7_lessFor 12 = .ok (.goto 9, 3) := by decide +kernel
theorem dX7_lessFor_15 : decode cX7_lessFor 15 = .ok (.aload_n 0, 1) := by decide +kernel
theorem dX7_lessFor_16 : decode cX7_lessFor 16 = .ok (.getfield 77, 3) := by decide +kernel
theorem dX7_lessFor_19 : decode cX7_lessFor 19 = .ok (.iload_n 1, 1) := by decide +kernel
theorem dX7_lessFor_20 : decode cX7_lessFor 20 = .ok (.iaload, 1) := by decide +kernel
theorem dX7_lessFor_21 : decode cX7_lessFor 21 = .ok (.ireturn, 1) := by decide +kernel
set_option maxRecDepth 20000 in
theorem ggX7_supsTruly_X7_sups : GoodIn wsX7_supsTruly wsX7_sups := goodIn_q _ [9, 24, 28, 32, 36, 42, 47, 55, 58, 62, 66] [10, 11, 12, 13, 14, 15, 4, 16, 17, 18, 19, 20, 21, 22, 23, 8, 1, 25, 26, 27, 2, 29, 30, 31, 33, 34, 35, 37, 38, 39, 40, 41, 43, 44, 45, 46, 48, 49, 50, 51, 52, 53, 54, 56, 57, 59, 60, 61, 63, 64, 65, 3, 71, 72, 73, 74, 75, 76, 77, 78, 79, 80, 81, 82, 83, 84, 85, 86, 87, 88, 89, 90, 91, 92, 93, 94, 95, 96, 97, 98, 99, 100, 101, 102, 103, 104, 105, 106, 107, 108, 109, 110, 111, 112, 113] rfl (by decide +kernel) (by decide +kernel)
set_option maxRecDepth 20000 in
theorem gX7_supsTruly_X7_sups : GoodIn wsX7_supsTruly (wsV RX7 219 RX7 yX7_sups wsX7_sups) := goodIn_app (goodIn_of _ (by decide +kernel)) ggX7_supsTruly_X7_sups
set_option maxRecDepth 20000 in
theorem ggX7_supsTruly_X7_lessFor : GoodIn wsX7_supsTruly wsX7_lessFor := goodIn_q _ [70] [10, 13, 71, 72, 73, 74, 75, 76, 77, 78, 79, 80, 81, 82, 83, 84, 85, 86, 87, 88, 89, 90, 91, 92, 93, 94, 95, 96, 97, 98, 99, 100, 101, 102, 103, 104, 105, 106, 107, 108, 109, 110, 111, 112, 113] rfl (by decide +kernel) (by decide +kernel)
set_option maxRecDepth 20000 in
theorem gX7_supsTruly_X7_lessFor : GoodIn wsX7_supsTruly (wsV RX7 229 RX7 yX7_lessFor wsX7_lessFor) := goodIn_app (goodIn_of _ (by decide +kernel)) ggX7_supsTruly_X7_lessFor
set_option maxRecDepth 20000 in
theorem ggX7_supsTruly_X7_within : GoodIn wsX7_supsTruly wsX7_within := goodIn_q _ [58] [] rfl (by decide +kernel) (by decide +kernel)
set_option maxRecDepth 20000 in
theorem gX7_supsTruly_X7_within : GoodIn wsX7_supsTruly (va_wsS RX7 173 yX7_within wsX7_within) := goodIn_app (goodIn_of _ (by decide +kernel)) ggX7_supsTruly_X7_within
theorem dX7_supsTruly_0 : decode cX7_supsTruly 0 = .ok (.aload_n 0, 1) := by decide +kernel
theorem dX7_supsTruly_1 : decode cX7_supsTruly 1 = .ok (.iconst (-1), 1) := by decide +kernel
theorem dX7_supsTruly_2 : decode cX7_supsTruly 2 = .ok (.invokevirtual 219, 3) := by decide +kernel
theorem dX7_supsTruly_5 : decode cX7_supsTruly 5 = .ok (.iconst 0, 1) := by decide +kernel
theorem dX7_supsTruly_6 : decode cX7_supsTruly 6 = .ok (.istore_n 1, 1) := by decide +kernel
theorem dX7_supsTruly_7 : decode cX7_supsTruly 7 = .ok (.iload_n 1, 1) := by decide +kernel
theorem dX7_supsTruly_8 : decode cX7_supsTruly 8 = .ok (.aload_n 0, 1) := by decide +kernel
theorem dX7_supsTruly_9 : decode cX7_supsTruly 9 = .ok (.getfield 90, 3) := by decide +kernel
theorem dX7_supsTruly_12 : decode cX7_supsTruly 12 = .ok (.if_icmp .ge 42, 3) := by decide +kernel
theorem dX7_supsTruly_15 : decode cX7_supsTruly 15 = .ok (.aload_n 0, 1) := by decide +kernel
theorem dX7_supsTruly_16 : decode cX7_supsTruly 16 = .ok (.getfield 16, 3) := by decide +kernel
theorem dX7_supsTruly_19 : decode cX7_supsTruly 19 = .ok (.iconst 2, 1) := by decide +kernel
theorem dX7_supsTruly_20 : decode cX7_supsTruly 20 = .ok (.iload_n 1, 1) := by decide +kernel
theorem dX7_supsTruly_21 : decode cX7_supsTruly 21 = .ok (.imul, 1) := by decide +kernel
theorem dX7_supsTruly_22 : decode cX7_supsTruly 22 = .ok (.iconst 1, 1) := by decide +kernel
theorem dX7_supsTruly_23 : decode cX7_supsTruly 23 = .ok (.iadd, 1) := by decide +kernel
theorem dX7_supsTruly_24 : decode cX7_supsTruly 24 = .ok (.aload_n 0, 1) := by decide +kernel
theorem dX7_supsTruly_25 : decode cX7_supsTruly 25 = .ok (.getfield 16, 3) := by decide +kernel
theorem dX7_supsTruly_28 : decode cX7_supsTruly 28 = .ok (.iconst 2, 1) := by decide +kernel
theorem dX7_supsTruly_29 : decode cX7_supsTruly 29 = .ok (.iload_n 1, 1) := by decide +kernel
theorem dX7_supsTruly_30 : decode cX7_supsTruly 30 = .ok (.imul, 1) := by decide +kernel
theorem dX7_supsTruly_31 : decode cX7_supsTruly 31 = .ok (.iconst 1, 1) := by decide +kernel
theorem dX7_supsTruly_32 : decode cX7_supsTruly 32 = .ok (.iadd, 1) := by decide +kernel
theorem dX7_supsTruly_33 : decode cX7_supsTruly 33 = .ok (.iaload, 1) := by decide +kernel
theorem dX7_supsTruly_34 : decode cX7_supsTruly 34 = .ok (.aload_n 0, 1) := by decide +kernel
theorem dX7_supsTruly_35 : decode cX7_supsTruly 35 = .ok (.iload_n 1, 1) := by decide +kernel
theorem dX7_supsTruly_36 : decode cX7_supsTruly 36 = .ok (.invokevirtual 229, 3) := by decide +kernel
theorem dX7_supsTruly_39 : decode cX7_supsTruly 39 = .ok (.isub, 1) := by decide +kernel
theorem dX7_supsTruly_40 : decode cX7_supsTruly 40 = .ok (.iconst 0, 1) := by decide +kernel
theorem dX7_supsTruly_41 : decode cX7_supsTruly 41 = .ok (.sipush 999, 3) := by decide +kernel
theorem dX7_supsTruly_44 : decode cX7_supsTruly 44 = .ok (.invokestatic 173, 3) := by decide +kernel
theorem dX7_supsTruly_47 : decode cX7_supsTruly 47 = .ok (.iastore, 1) := by decide +kernel
theorem dX7_supsTruly_48 : decode cX7_supsTruly 48 = .ok (.iinc 1 1, 3) := by decide +kernel
theorem dX7_supsTruly_51 : decode cX7_supsTruly 51 = .ok (.goto (-44), 3) := by decide +kernel
theorem dX7_supsTruly_54 : decode cX7_supsTruly 54 = .ok (.aload_n 0, 1) := by decide +kernel
theorem dX7_supsTruly_55 : decode cX7_supsTruly 55 = .ok (.dup, 1) := by decide +kernel
theorem dX7_supsTruly_56 : decode cX7_supsTruly 56 = .ok (.getfield 97, 3) := by decide +kernel
theorem dX7_supsTruly_59 : decode cX7_supsTruly 59 = .ok (.iconst 1, 1) := by decide +kernel
theorem dX7_supsTruly_60 : decode cX7_supsTruly 60 = .ok (.iadd, 1) := by decide +kernel
theorem dX7_supsTruly_61 : decode cX7_supsTruly 61 = .ok (.putfield 97, 3) := by decide +kernel
theorem dX7_supsTruly_64 : decode cX7_supsTruly 64 = .ok (.aload_n 0, 1) := by decide +kernel
theorem dX7_supsTruly_65 : decode cX7_supsTruly 65 = .ok (.getfield 200, 3) := by decide +kernel
theorem dX7_supsTruly_68 : decode cX7_supsTruly 68 = .ok (.ireturn, 1) := by decide +kernel
set_option maxRecDepth 20000 in
theorem ggX7_sup_X7_supsTruly : GoodIn wsX7_sup wsX7_supsTruly := goodIn_q _ [7, 14, 29, 33, 37, 41, 47, 52, 60, 63, 67, 71, 75] [8, 9, 1, 10, 11, 12, 13, 6, 15, 16, 17, 18, 19, 20, 21, 22, 23, 24, 25, 26, 27, 28, 30, 31, 32, 34, 35, 36, 38, 39, 40, 42, 43, 44, 45, 46, 48, 49, 50, 51, 53, 54, 55, 56, 57, 58, 59, 61, 62, 64, 65, 66, 68, 69, 70, 72, 73, 74, 76, 77, 78, 79, 80, 81, 82, 83, 84, 85, 86, 87, 88, 89, 90, 91, 92, 93, 94, 95, 96, 97, 98, 99, 100, 101, 102, 103, 104, 105, 106, 107, 108, 109, 110, 111, 112, 113, 114, 115, 116, 117, 118] rfl (by decide +kernel) (by decide +kernel)
set_option maxRecDepth 20000 in
theorem gX7_sup_X7_supsTruly : GoodIn wsX7_sup (wsV RX7 232 RX7 yX7_supsTruly wsX7_supsTruly) := goodIn_app (goodIn_of _ (by decide +kernel)) ggX7_sup_X7_supsTruly
theorem dX7_sup_0 : decode cX7_sup 0 = .ok (.aload_n 0, 1) := by decide +kernel
theorem dX7_sup_1 : decode cX7_sup 1 = .ok (.getfield 97, 3) := by decide +kernel
theorem dX7_sup_4 : decode cX7_sup 4 = .ok (.sipush 999, 3) := by decide +kernel
theorem dX7_sup_7 : decode cX7_sup 7 = .ok (.if_icmp .ne 8, 3) := by decide +kernel
theorem dX7_sup_10 : decode cX7_sup 10 = .ok (.ldc 222, 2) := by decide +kernel
theorem dX7_sup_12 : decode cX7_sup 12 = .ok (.goto 7, 3) := by decide +kernel
theorem dX7_sup_15 : decode cX7_sup 15 = .ok (.aload_n 0, 1) := by decide +kernel
theorem dX7_sup_16 : decode cX7_sup 16 = .ok (.invokevirtual 232, 3) := by decide +kernel
theorem dX7_sup_19 : decode cX7_sup 19 = .ok (.ireturn, 1) := by decide +kernel
theorem dX7_keeps_0 : decode cX7_keeps 0 = .ok (.iconst 0, 1) := by decide +kernel
theorem dX7_keeps_1 : decode cX7_keeps 1 = .ok (.istore_n 1, 1) := by decide +kernel
theorem dX7_keeps_2 : decode cX7_keeps 2 = .ok (.iload_n 1, 1) := by decide +kernel
theorem dX7_keeps_3 : decode cX7_keeps 3 = .ok (.bipush 12, 2) := by decide +kernel
theorem dX7_keeps_5 : decode cX7_keeps 5 = .ok (.if_icmp .ge 21, 3) := by decide +kernel
theorem dX7_keeps_8 : decode cX7_keeps 8 = .ok (.aload_n 0, 1) := by decide +kernel
theorem dX7_keeps_9 : decode cX7_keeps 9 = .ok (.getfield 80, 3) := by decide +kernel
theorem dX7_keeps_12 : decode cX7_keeps 12 = .ok (.iload_n 1, 1) := by decide +kernel
theorem dX7_keeps_13 : decode cX7_keeps 13 = .ok (.aload_n 0, 1) := by decide +kernel
theorem dX7_keeps_14 : decode cX7_keeps 14 = .ok (.getfield 16, 3) := by decide +kernel
theorem dX7_keeps_17 : decode cX7_keeps 17 = .ok (.iload_n 1, 1) := by decide +kernel
theorem dX7_keeps_18 : decode cX7_keeps 18 = .ok (.iaload, 1) := by decide +kernel
theorem dX7_keeps_19 : decode cX7_keeps 19 = .ok (.iastore, 1) := by decide +kernel
theorem dX7_keeps_20 : decode cX7_keeps 20 = .ok (.iinc 1 1, 3) := by decide +kernel
theorem dX7_keeps_23 : decode cX7_keeps 23 = .ok (.goto (-21), 3) := by decide +kernel
theorem dX7_keeps_26 : decode cX7_keeps 26 = .ok (.aload_n 0, 1) := by decide +kernel
theorem dX7_keeps_27 : decode cX7_keeps 27 = .ok (.getfield 80, 3) := by decide +kernel
theorem dX7_keeps_30 : decode cX7_keeps 30 = .ok (.bipush 12, 2) := by decide +kernel
theorem dX7_keeps_32 : decode cX7_keeps 32 = .ok (.aload_n 0, 1) := by decide +kernel
theorem dX7_keeps_33 : decode cX7_keeps 33 = .ok (.getfield 97, 3) := by decide +kernel
theorem dX7_keeps_36 : decode cX7_keeps 36 = .ok (.iastore, 1) := by decide +kernel
theorem dX7_keeps_37 : decode cX7_keeps 37 = .ok (.return_, 1) := by decide +kernel
theorem dX7_lays_0 : decode cX7_lays 0 = .ok (.iconst 0, 1) := by decide +kernel
theorem dX7_lays_1 : decode cX7_lays 1 = .ok (.istore_n 1, 1) := by decide +kernel
theorem dX7_lays_2 : decode cX7_lays 2 = .ok (.iload_n 1, 1) := by decide +kernel
theorem dX7_lays_3 : decode cX7_lays 3 = .ok (.bipush 12, 2) := by decide +kernel
theorem dX7_lays_5 : decode cX7_lays 5 = .ok (.if_icmp .ge 21, 3) := by decide +kernel
theorem dX7_lays_8 : decode cX7_lays 8 = .ok (.aload_n 0, 1) := by decide +kernel
theorem dX7_lays_9 : decode cX7_lays 9 = .ok (.getfield 16, 3) := by decide +kernel
theorem dX7_lays_12 : decode cX7_lays 12 = .ok (.iload_n 1, 1) := by decide +kernel
theorem dX7_lays_13 : decode cX7_lays 13 = .ok (.aload_n 0, 1) := by decide +kernel
theorem dX7_lays_14 : decode cX7_lays 14 = .ok (.getfield 80, 3) := by decide +kernel
theorem dX7_lays_17 : decode cX7_lays 17 = .ok (.iload_n 1, 1) := by decide +kernel
theorem dX7_lays_18 : decode cX7_lays 18 = .ok (.iaload, 1) := by decide +kernel
theorem dX7_lays_19 : decode cX7_lays 19 = .ok (.iastore, 1) := by decide +kernel
theorem dX7_lays_20 : decode cX7_lays 20 = .ok (.iinc 1 1, 3) := by decide +kernel
theorem dX7_lays_23 : decode cX7_lays 23 = .ok (.goto (-21), 3) := by decide +kernel
theorem dX7_lays_26 : decode cX7_lays 26 = .ok (.aload_n 0, 1) := by decide +kernel
theorem dX7_lays_27 : decode cX7_lays 27 = .ok (.aload_n 0, 1) := by decide +kernel
theorem dX7_lays_28 : decode cX7_lays 28 = .ok (.getfield 80, 3) := by decide +kernel
theorem dX7_lays_31 : decode cX7_lays 31 = .ok (.bipush 12, 2) := by decide +kernel
theorem dX7_lays_33 : decode cX7_lays 33 = .ok (.iaload, 1) := by decide +kernel
theorem dX7_lays_34 : decode cX7_lays 34 = .ok (.putfield 97, 3) := by decide +kernel
theorem dX7_lays_37 : decode cX7_lays 37 = .ok (.return_, 1) := by decide +kernel
set_option maxRecDepth 20000 in
theorem ggX7_run_X7_isOne : GoodIn wsX7_run wsX7_isOne := goodIn_q _ [7, 11] [8, 9, 10, 6, 92, 93, 94, 95, 96, 97, 98, 99, 100, 101, 102, 103, 104, 105, 106, 107, 108, 109, 110, 111, 112, 113, 114, 115, 116, 117, 118, 119, 120, 121, 122, 123, 124, 125, 126, 127, 128, 129, 130, 131, 132, 133, 134] rfl (by decide +kernel) (by decide +kernel)
set_option maxRecDepth 20000 in
theorem gX7_run_X7_isOne : GoodIn wsX7_run (wsV RX7 176 RX7 yX7_isOne wsX7_isOne) := goodIn_app (goodIn_of _ (by decide +kernel)) ggX7_run_X7_isOne
set_option maxRecDepth 20000 in
theorem ggX7_run_X7_in : GoodIn wsX7_run wsX7_in := goodIn_q _ [11] [] rfl (by decide +kernel) (by decide +kernel)
set_option maxRecDepth 20000 in
theorem gX7_run_X7_in : GoodIn wsX7_run (va_wsS RX7 93 yX7_in wsX7_in) := goodIn_app (goodIn_of _ (by decide +kernel)) ggX7_run_X7_in
set_option maxRecDepth 20000 in
theorem ggX7_run_X7_keeps : GoodIn wsX7_run wsX7_keeps := goodIn_q _ [15] [16, 2, 17, 92, 93, 94, 95, 96, 97, 98, 99, 100, 101, 102, 103, 104, 105, 106, 107, 108, 109, 110, 111, 112, 113, 114, 115, 116, 117, 118, 119, 120, 121, 122, 123, 124, 125, 126, 127, 128, 129, 130, 131, 132, 133, 134] rfl (by decide +kernel) (by decide +kernel)
set_option maxRecDepth 20000 in
theorem gX7_run_X7_keeps : GoodIn wsX7_run (wsV RX7 235 RX7 yX7_keeps wsX7_keeps) := goodIn_app (goodIn_of _ (by decide +kernel)) ggX7_run_X7_keeps
set_option maxRecDepth 20000 in
theorem ggX7_run_X7_supsTruly : GoodIn wsX7_run wsX7_supsTruly := goodIn_q _ [21, 26, 41, 45, 49, 53, 59, 64, 72, 75, 79, 83, 87] [8, 2, 17, 22, 23, 24, 25, 6, 27, 28, 29, 30, 31, 32, 33, 34, 35, 36, 37, 38, 39, 40, 42, 43, 44, 46, 47, 48, 50, 51, 52, 54, 55, 56, 57, 58, 60, 61, 62, 63, 65, 66, 67, 68, 69, 70, 71, 73, 74, 76, 77, 78, 80, 81, 82, 84, 85, 86, 92, 93, 94, 95, 96, 97, 98, 99, 100, 101, 102, 103, 104, 105, 106, 107, 108, 109, 110, 111, 112, 113, 114, 115, 116, 117, 118, 119, 120, 121, 122, 123, 124, 125, 126, 127, 128, 129, 130, 131, 132, 133, 134] rfl (by decide +kernel) (by decide +kernel)
set_option maxRecDepth 20000 in
theorem gX7_run_X7_supsTruly : GoodIn wsX7_run (wsV RX7 232 RX7 yX7_supsTruly wsX7_supsTruly) := goodIn_app (goodIn_of _ (by decide +kernel)) ggX7_run_X7_supsTruly
set_option maxRecDepth 20000 in
theorem ggX7_run_X7_lessFor : GoodIn wsX7_run wsX7_lessFor := goodIn_q _ [87] [27, 30, 92, 93, 94, 95, 96, 97, 98, 99, 100, 101, 102, 103, 104, 105, 106, 107, 108, 109, 110, 111, 112, 113, 114, 115, 116, 117, 118, 119, 120, 121, 122, 123, 124, 125, 126, 127, 128, 129, 130, 131, 132, 133, 134] rfl (by decide +kernel) (by decide +kernel)
set_option maxRecDepth 20000 in
theorem gX7_run_X7_lessFor : GoodIn wsX7_run (wsV RX7 229 RX7 yX7_lessFor wsX7_lessFor) := goodIn_app (goodIn_of _ (by decide +kernel)) ggX7_run_X7_lessFor
set_option maxRecDepth 20000 in
theorem ggX7_run_X7_lays : GoodIn wsX7_run wsX7_lays := goodIn_q _ [91] [2, 16, 17, 92, 93, 94, 95, 96, 97, 98, 99, 100, 101, 102, 103, 104, 105, 106, 107, 108, 109, 110, 111, 112, 113, 114, 115, 116, 117, 118, 119, 120, 121, 122, 123, 124, 125, 126, 127, 128, 129, 130, 131, 132, 133, 134] rfl (by decide +kernel) (by decide +kernel)
set_option maxRecDepth 20000 in
theorem gX7_run_X7_lays : GoodIn wsX7_run (wsV RX7 238 RX7 yX7_lays wsX7_lays) := goodIn_app (goodIn_of _ (by decide +kernel)) ggX7_run_X7_lays
theorem dX7_run_0 : decode cX7_run 0 = .ok (.aload_n 0, 1) := by decide +kernel
theorem dX7_run_1 : decode cX7_run 1 = .ok (.iload_n 1, 1) := by decide +kernel
theorem dX7_run_2 : decode cX7_run 2 = .ok (.invokevirtual 176, 3) := by decide +kernel
theorem dX7_run_5 : decode cX7_run 5 = .ok (.ifCond .eq 22, 3) := by decide +kernel
theorem dX7_run_8 : decode cX7_run 8 = .ok (.iload_n 2, 1) := by decide +kernel
theorem dX7_run_9 : decode cX7_run 9 = .ok (.iconst 0, 1) := by decide +kernel
theorem dX7_run_10 : decode cX7_run 10 = .ok (.bipush 20, 2) := by decide +kernel
theorem dX7_run_12 : decode cX7_run 12 = .ok (.invokestatic 93, 3) := by decide +kernel
theorem dX7_run_15 : decode cX7_run 15 = .ok (.ifCond .eq 12, 3) := by decide +kernel
theorem dX7_run_18 : decode cX7_run 18 = .ok (.iload_n 3, 1) := by decide +kernel
theorem dX7_run_19 : decode cX7_run 19 = .ok (.iconst 0, 1) := by decide +kernel
theorem dX7_run_20 : decode cX7_run 20 = .ok (.iconst 2, 1) := by decide +kernel
theorem dX7_run_21 : decode cX7_run 21 = .ok (.invokestatic 93, 3) := by decide +kernel
theorem dX7_run_24 : decode cX7_run 24 = .ok (.ifCond .ne 6, 3) := by decide +kernel
theorem dX7_run_27 : decode cX7_run 27 = .ok (.ldc 222, 2) := by decide +kernel
theorem dX7_run_29 : decode cX7_run 29 = .ok (.ireturn, 1) := by decide +kernel
theorem dX7_run_30 : decode cX7_run 30 = .ok (.iconst 0, 1) := by decide +kernel
theorem dX7_run_31 : decode cX7_run 31 = .ok (.istore 4, 2) := by decide +kernel
theorem dX7_run_33 : decode cX7_run 33 = .ok (.iconst 0, 1) := by decide +kernel
theorem dX7_run_34 : decode cX7_run 34 = .ok (.istore 5, 2) := by decide +kernel
theorem dX7_run_36 : decode cX7_run 36 = .ok (.aload_n 0, 1) := by decide +kernel
theorem dX7_run_37 : decode cX7_run 37 = .ok (.invokevirtual 235, 3) := by decide +kernel
theorem dX7_run_40 : decode cX7_run 40 = .ok (.iconst 0, 1) := by decide +kernel
theorem dX7_run_41 : decode cX7_run 41 = .ok (.istore 6, 2) := by decide +kernel
theorem dX7_run_43 : decode cX7_run 43 = .ok (.iload 6, 2) := by decide +kernel
theorem dX7_run_45 : decode cX7_run 45 = .ok (.iload_n 2, 1) := by decide +kernel
theorem dX7_run_46 : decode cX7_run 46 = .ok (.if_icmp .ge 28, 3) := by decide +kernel
theorem dX7_run_49 : decode cX7_run 49 = .ok (.iload 5, 2) := by decide +kernel
theorem dX7_run_51 : decode cX7_run 51 = .ok (.aload_n 0, 1) := by decide +kernel
theorem dX7_run_52 : decode cX7_run 52 = .ok (.invokevirtual 232, 3) := by decide +kernel
theorem dX7_run_55 : decode cX7_run 55 = .ok (.iadd, 1) := by decide +kernel
theorem dX7_run_56 : decode cX7_run 56 = .ok (.istore 5, 2) := by decide +kernel
theorem dX7_run_58 : decode cX7_run 58 = .ok (.iload 4, 2) := by decide +kernel
theorem dX7_run_60 : decode cX7_run 60 = .ok (.aload_n 0, 1) := by decide +kernel
theorem dX7_run_61 : decode cX7_run 61 = .ok (.iload_n 1, 1) := by decide +kernel
theorem dX7_run_62 : decode cX7_run 62 = .ok (.invokevirtual 229, 3) := by decide +kernel
theorem dX7_run_65 : decode cX7_run 65 = .ok (.iadd, 1) := by decide +kernel
theorem dX7_run_66 : decode cX7_run 66 = .ok (.istore 4, 2) := by decide +kernel
theorem dX7_run_68 : decode cX7_run 68 = .ok (.iinc 6 1, 3) := by decide +kernel
theorem dX7_run_71 : decode cX7_run 71 = .ok (.goto (-28), 3) := by decide +kernel
theorem dX7_run_74 : decode cX7_run 74 = .ok (.aload_n 0, 1) := by decide +kernel
theorem dX7_run_75 : decode cX7_run 75 = .ok (.getfield 16, 3) := by decide +kernel
theorem dX7_run_78 : decode cX7_run 78 = .ok (.iconst 2, 1) := by decide +kernel
theorem dX7_run_79 : decode cX7_run 79 = .ok (.iload_n 1, 1) := by decide +kernel
theorem dX7_run_80 : decode cX7_run 80 = .ok (.imul, 1) := by decide +kernel
theorem dX7_run_81 : decode cX7_run 81 = .ok (.iconst 1, 1) := by decide +kernel
theorem dX7_run_82 : decode cX7_run 82 = .ok (.iadd, 1) := by decide +kernel
theorem dX7_run_83 : decode cX7_run 83 = .ok (.iaload, 1) := by decide +kernel
theorem dX7_run_84 : decode cX7_run 84 = .ok (.istore 6, 2) := by decide +kernel
theorem dX7_run_86 : decode cX7_run 86 = .ok (.aload_n 0, 1) := by decide +kernel
theorem dX7_run_87 : decode cX7_run 87 = .ok (.invokevirtual 238, 3) := by decide +kernel
theorem dX7_run_90 : decode cX7_run 90 = .ok (.iload_n 3, 1) := by decide +kernel
theorem dX7_run_91 : decode cX7_run 91 = .ok (.ifCond .ne 8, 3) := by decide +kernel
theorem dX7_run_94 : decode cX7_run 94 = .ok (.iload 6, 2) := by decide +kernel
theorem dX7_run_96 : decode cX7_run 96 = .ok (.goto 15, 3) := by decide +kernel
theorem dX7_run_99 : decode cX7_run 99 = .ok (.iload_n 3, 1) := by decide +kernel
theorem dX7_run_100 : decode cX7_run 100 = .ok (.iconst 1, 1) := by decide +kernel
theorem dX7_run_101 : decode cX7_run 101 = .ok (.if_icmp .ne 8, 3) := by decide +kernel
theorem dX7_run_104 : decode cX7_run 104 = .ok (.iload 4, 2) := by decide +kernel
theorem dX7_run_106 : decode cX7_run 106 = .ok (.goto 5, 3) := by decide +kernel
theorem dX7_run_109 : decode cX7_run 109 = .ok (.iload 5, 2) := by decide +kernel
theorem dX7_run_111 : decode cX7_run 111 = .ok (.ireturn, 1) := by decide +kernel
set_option maxRecDepth 20000 in
theorem ggX7_mindsNow_X7_sups : GoodIn wsX7_mindsNow wsX7_sups := goodIn_q _ [6, 21, 26, 31, 35, 41, 46, 54, 57, 61, 65] [7, 8, 9, 10, 11, 12, 1, 13, 14, 15, 16, 17, 18, 19, 20, 5, 22, 23, 24, 25, 27, 28, 29, 30, 32, 33, 34, 36, 37, 38, 39, 40, 42, 43, 44, 45, 47, 48, 49, 50, 51, 52, 53, 55, 56, 58, 59, 60, 62, 63, 64, 66, 67, 68, 69, 70, 71, 72, 73, 74, 75, 76, 77, 78, 79, 80, 81, 82, 83, 84, 85, 86, 87, 88, 89, 90, 91, 92, 93, 94, 95, 96, 97, 98, 99, 100, 101, 102, 103, 104, 105, 106, 107, 108, 109] rfl (by decide +kernel) (by decide +kernel)
set_option maxRecDepth 20000 in
theorem gX7_mindsNow_X7_sups : GoodIn wsX7_mindsNow (wsV RX7 219 RX7 yX7_sups wsX7_sups) := goodIn_app (goodIn_of _ (by decide +kernel)) ggX7_mindsNow_X7_sups
theorem dX7_mindsNow_0 : decode cX7_mindsNow 0 = .ok (.aload_n 0, 1) := by decide +kernel
theorem dX7_mindsNow_1 : decode cX7_mindsNow 1 = .ok (.iconst (-1), 1) := by decide +kernel
theorem dX7_mindsNow_2 : decode cX7_mindsNow 2 = .ok (.invokevirtual 219, 3) := by decide +kernel
theorem dX7_mindsNow_5 : decode cX7_mindsNow 5 = .ok (.aload_n 0, 1) := by decide +kernel
theorem dX7_mindsNow_6 : decode cX7_mindsNow 6 = .ok (.getfield 200, 3) := by decide +kernel
theorem dX7_mindsNow_9 : decode cX7_mindsNow 9 = .ok (.ireturn, 1) := by decide +kernel
set_option maxRecDepth 20000 in
theorem ggX7_cook_X7_in : GoodIn wsX7_cook wsX7_in := goodIn_q _ [6] [] rfl (by decide +kernel) (by decide +kernel)
set_option maxRecDepth 20000 in
theorem gX7_cook_X7_in : GoodIn wsX7_cook (va_wsS RX7 93 yX7_in wsX7_in) := goodIn_app (goodIn_of _ (by decide +kernel)) ggX7_cook_X7_in
set_option maxRecDepth 20000 in
theorem ggX7_cook_X7_mindsNow : GoodIn wsX7_cook wsX7_mindsNow := goodIn_q _ [10, 15, 29, 34, 39, 43, 49, 54, 62, 65, 69, 73] [11, 12, 13, 14, 5, 16, 17, 18, 19, 20, 21, 22, 23, 2, 24, 25, 26, 27, 28, 30, 31, 32, 33, 35, 36, 37, 38, 40, 41, 42, 44, 45, 46, 47, 48, 50, 51, 52, 53, 55, 56, 57, 58, 59, 60, 61, 63, 64, 66, 67, 68, 70, 71, 72, 74, 75, 76, 77, 78, 79, 80, 81, 82, 83, 84, 85, 86, 87, 88, 89, 90, 91, 92, 93, 94, 95, 96, 97, 98, 99, 100, 101, 102, 103, 104, 105, 106, 107, 108, 109, 110, 111, 112, 113, 114, 115, 116, 117] rfl (by decide +kernel) (by decide +kernel)
set_option maxRecDepth 20000 in
theorem gX7_cook_X7_mindsNow : GoodIn wsX7_cook (wsV RX7 241 RX7 yX7_mindsNow wsX7_mindsNow) := goodIn_app (goodIn_of _ (by decide +kernel)) ggX7_cook_X7_mindsNow
theorem dX7_cook_0 : decode cX7_cook 0 = .ok (.iload_n 1, 1) := by decide +kernel
theorem dX7_cook_1 : decode cX7_cook 1 = .ok (.iconst 0, 1) := by decide +kernel
theorem dX7_cook_2 : decode cX7_cook 2 = .ok (.iconst 1, 1) := by decide +kernel
theorem dX7_cook_3 : decode cX7_cook 3 = .ok (.invokestatic 93, 3) := by decide +kernel
theorem dX7_cook_6 : decode cX7_cook 6 = .ok (.ifCond .ne 6, 3) := by decide +kernel
theorem dX7_cook_9 : decode cX7_cook 9 = .ok (.ldc 222, 2) := by decide +kernel
theorem dX7_cook_11 : decode cX7_cook 11 = .ok (.ireturn, 1) := by decide +kernel
theorem dX7_cook_12 : decode cX7_cook 12 = .ok (.aload_n 0, 1) := by decide +kernel
theorem dX7_cook_13 : decode cX7_cook 13 = .ok (.getfield 19, 3) := by decide +kernel
theorem dX7_cook_16 : decode cX7_cook 16 = .ok (.istore_n 2, 1) := by decide +kernel
theorem dX7_cook_17 : decode cX7_cook 17 = .ok (.iconst (-1), 1) := by decide +kernel
theorem dX7_cook_18 : decode cX7_cook 18 = .ok (.istore_n 3, 1) := by decide +kernel
theorem dX7_cook_19 : decode cX7_cook 19 = .ok (.iconst 0, 1) := by decide +kernel
theorem dX7_cook_20 : decode cX7_cook 20 = .ok (.istore 4, 2) := by decide +kernel
theorem dX7_cook_22 : decode cX7_cook 22 = .ok (.iconst 0, 1) := by decide +kernel
theorem dX7_cook_23 : decode cX7_cook 23 = .ok (.istore 5, 2) := by decide +kernel
theorem dX7_cook_25 : decode cX7_cook 25 = .ok (.iload 5, 2) := by decide +kernel
theorem dX7_cook_27 : decode cX7_cook 27 = .ok (.bipush 99, 2) := by decide +kernel
theorem dX7_cook_29 : decode cX7_cook 29 = .ok (.if_icmp .gt 66, 3) := by decide +kernel
theorem dX7_cook_32 : decode cX7_cook 32 = .ok (.aload_n 0, 1) := by decide +kernel
theorem dX7_cook_33 : decode cX7_cook 33 = .ok (.iload 5, 2) := by decide +kernel
theorem dX7_cook_35 : decode cX7_cook 35 = .ok (.putfield 19, 3) := by decide +kernel
theorem dX7_cook_38 : decode cX7_cook 38 = .ok (.aload_n 0, 1) := by decide +kernel
theorem dX7_cook_39 : decode cX7_cook 39 = .ok (.invokevirtual 241, 3) := by decide +kernel
theorem dX7_cook_42 : decode cX7_cook 42 = .ok (.istore 6, 2) := by decide +kernel
theorem dX7_cook_44 : decode cX7_cook 44 = .ok (.iload_n 3, 1) := by decide +kernel
theorem dX7_cook_45 : decode cX7_cook 45 = .ok (.iconst (-1), 1) := by decide +kernel
theorem dX7_cook_46 : decode cX7_cook 46 = .ok (.if_icmp .eq 10, 3) := by decide +kernel
theorem dX7_cook_49 : decode cX7_cook 49 = .ok (.iload 6, 2) := by decide +kernel
theorem dX7_cook_51 : decode cX7_cook 51 = .ok (.iload 4, 2) := by decide +kernel
theorem dX7_cook_53 : decode cX7_cook 53 = .ok (.if_icmp .ge 7, 3) := by decide +kernel
theorem dX7_cook_56 : decode cX7_cook 56 = .ok (.iconst 1, 1) := by decide +kernel
theorem dX7_cook_57 : decode cX7_cook 57 = .ok (.goto 4, 3) := by decide +kernel
theorem dX7_cook_60 : decode cX7_cook 60 = .ok (.iconst 0, 1) := by decide +kernel
theorem dX7_cook_61 : decode cX7_cook 61 = .ok (.istore 7, 2) := by decide +kernel
theorem dX7_cook_63 : decode cX7_cook 63 = .ok (.iload 7, 2) := by decide +kernel
theorem dX7_cook_65 : decode cX7_cook 65 = .ok (.ifCond .eq 8, 3) := by decide +kernel
theorem dX7_cook_68 : decode cX7_cook 68 = .ok (.iload 5, 2) := by decide +kernel
theorem dX7_cook_70 : decode cX7_cook 70 = .ok (.goto 4, 3) := by decide +kernel
theorem dX7_cook_73 : decode cX7_cook 73 = .ok (.iload_n 3, 1) := by decide +kernel
theorem dX7_cook_74 : decode cX7_cook 74 = .ok (.istore_n 3, 1) := by decide +kernel
theorem dX7_cook_75 : decode cX7_cook 75 = .ok (.iload 7, 2) := by decide +kernel
theorem dX7_cook_77 : decode cX7_cook 77 = .ok (.ifCond .eq 8, 3) := by decide +kernel
theorem dX7_cook_80 : decode cX7_cook 80 = .ok (.iload 6, 2) := by decide +kernel
theorem dX7_cook_82 : decode cX7_cook 82 = .ok (.goto 5, 3) := by decide +kernel
theorem dX7_cook_85 : decode cX7_cook 85 = .ok (.iload 4, 2) := by decide +kernel
theorem dX7_cook_87 : decode cX7_cook 87 = .ok (.istore 4, 2) := by decide +kernel
theorem dX7_cook_89 : decode cX7_cook 89 = .ok (.iinc 5 1, 3) := by decide +kernel
theorem dX7_cook_92 : decode cX7_cook 92 = .ok (.goto (-67), 3) := by decide +kernel
theorem dX7_cook_95 : decode cX7_cook 95 = .ok (.aload_n 0, 1) := by decide +kernel
theorem dX7_cook_96 : decode cX7_cook 96 = .ok (.iload_n 2, 1) := by decide +kernel
theorem dX7_cook_97 : decode cX7_cook 97 = .ok (.putfield 19, 3) := by decide +kernel
theorem dX7_cook_100 : decode cX7_cook 100 = .ok (.iload_n 1, 1) := by decide +kernel
theorem dX7_cook_101 : decode cX7_cook 101 = .ok (.ifCond .ne 7, 3) := by decide +kernel
theorem dX7_cook_104 : decode cX7_cook 104 = .ok (.iload_n 3, 1) := by decide +kernel
theorem dX7_cook_105 : decode cX7_cook 105 = .ok (.goto 5, 3) := by decide +kernel
theorem dX7_cook_108 : decode cX7_cook 108 = .ok (.iload 4, 2) := by decide +kernel
theorem dX7_cook_110 : decode cX7_cook 110 = .ok (.ireturn, 1) := by decide +kernel
theorem dX7_change_0 : decode cX7_change 0 = .ok (.aload_n 0, 1) := by decide +kernel
theorem dX7_change_1 : decode cX7_change 1 = .ok (.getfield 16, 3) := by decide +kernel
theorem dX7_change_4 : decode cX7_change 4 = .ok (.iconst 2, 1) := by decide +kernel
theorem dX7_change_5 : decode cX7_change 5 = .ok (.iload_n 1, 1) := by decide +kernel
theorem dX7_change_6 : decode cX7_change 6 = .ok (.imul, 1) := by decide +kernel
theorem dX7_change_7 : decode cX7_change 7 = .ok (.iaload, 1) := by decide +kernel
theorem dX7_change_8 : decode cX7_change 8 = .ok (.istore_n 3, 1) := by decide +kernel
theorem dX7_change_9 : decode cX7_change 9 = .ok (.aload_n 0, 1) := by decide +kernel
theorem dX7_change_10 : decode cX7_change 10 = .ok (.getfield 16, 3) := by decide +kernel
theorem dX7_change_13 : decode cX7_change 13 = .ok (.iconst 2, 1) := by decide +kernel
theorem dX7_change_14 : decode cX7_change 14 = .ok (.iload_n 1, 1) := by decide +kernel
theorem dX7_change_15 : decode cX7_change 15 = .ok (.imul, 1) := by decide +kernel
theorem dX7_change_16 : decode cX7_change 16 = .ok (.aload_n 0, 1) := by decide +kernel
theorem dX7_change_17 : decode cX7_change 17 = .ok (.getfield 16, 3) := by decide +kernel
theorem dX7_change_20 : decode cX7_change 20 = .ok (.iconst 2, 1) := by decide +kernel
theorem dX7_change_21 : decode cX7_change 21 = .ok (.iload_n 2, 1) := by decide +kernel
theorem dX7_change_22 : decode cX7_change 22 = .ok (.imul, 1) := by decide +kernel
theorem dX7_change_23 : decode cX7_change 23 = .ok (.iaload, 1) := by decide +kernel
theorem dX7_change_24 : decode cX7_change 24 = .ok (.iastore, 1) := by decide +kernel
theorem dX7_change_25 : decode cX7_change 25 = .ok (.aload_n 0, 1) := by decide +kernel
theorem dX7_change_26 : decode cX7_change 26 = .ok (.getfield 16, 3) := by decide +kernel
theorem dX7_change_29 : decode cX7_change 29 = .ok (.iconst 2, 1) := by decide +kernel
theorem dX7_change_30 : decode cX7_change 30 = .ok (.iload_n 2, 1) := by decide +kernel
theorem dX7_change_31 : decode cX7_change 31 = .ok (.imul, 1) := by decide +kernel
theorem dX7_change_32 : decode cX7_change 32 = .ok (.iload_n 3, 1) := by decide +kernel
theorem dX7_change_33 : decode cX7_change 33 = .ok (.iastore, 1) := by decide +kernel
theorem dX7_change_34 : decode cX7_change 34 = .ok (.return_, 1) := by decide +kernel
set_option maxRecDepth 20000 in
theorem ggX7_raise_X7_in : GoodIn wsX7_raise wsX7_in := goodIn_q _ [6] [] rfl (by decide +kernel) (by decide +kernel)
set_option maxRecDepth 20000 in
theorem gX7_raise_X7_in : GoodIn wsX7_raise (va_wsS RX7 93 yX7_in wsX7_in) := goodIn_app (goodIn_of _ (by decide +kernel)) ggX7_raise_X7_in
set_option maxRecDepth 20000 in
theorem ggX7_raise_X7_mindsNow : GoodIn wsX7_raise wsX7_mindsNow := goodIn_q _ [10, 15, 30, 34, 39, 43, 49, 54, 62, 65, 69, 73] [11, 12, 13, 14, 5, 16, 17, 18, 19, 20, 21, 22, 23, 24, 25, 26, 27, 28, 29, 2, 31, 32, 33, 35, 36, 37, 38, 40, 41, 42, 44, 45, 46, 47, 48, 50, 51, 52, 53, 55, 56, 57, 58, 59, 60, 61, 63, 64, 66, 67, 68, 70, 71, 72, 74, 79, 80, 81, 82, 83, 84, 85, 86, 87, 88, 89, 90, 91, 92, 93, 94, 95, 96, 97, 98, 99, 100, 101, 102, 103, 104, 105, 106, 107, 108, 109, 110, 111, 112, 113, 114, 115, 116, 117, 118, 119, 120, 121] rfl (by decide +kernel) (by decide +kernel)
set_option maxRecDepth 20000 in
theorem gX7_raise_X7_mindsNow : GoodIn wsX7_raise (wsV RX7 241 RX7 yX7_mindsNow wsX7_mindsNow) := goodIn_app (goodIn_of _ (by decide +kernel)) ggX7_raise_X7_mindsNow
set_option maxRecDepth 20000 in
theorem ggX7_raise_X7_change : GoodIn wsX7_raise wsX7_change := goodIn_q _ [78] [35, 79, 80, 81, 82, 83, 84, 85, 86, 87, 88, 89, 90, 91, 92, 93, 94, 95, 96, 97, 98, 99, 100, 101, 102, 103, 104, 105, 106, 107, 108, 109, 110, 111, 112, 113, 114, 115, 116, 117, 118, 119, 120, 121] rfl (by decide +kernel) (by decide +kernel)
set_option maxRecDepth 20000 in
theorem gX7_raise_X7_change : GoodIn wsX7_raise (wsV RX7 244 RX7 yX7_change wsX7_change) := goodIn_app (goodIn_of _ (by decide +kernel)) ggX7_raise_X7_change
theorem dX7_raise_0 : decode cX7_raise 0 = .ok (.iload_n 1, 1) := by decide +kernel
theorem dX7_raise_1 : decode cX7_raise 1 = .ok (.iconst 0, 1) := by decide +kernel
theorem dX7_raise_2 : decode cX7_raise 2 = .ok (.iconst 1, 1) := by decide +kernel
theorem dX7_raise_3 : decode cX7_raise 3 = .ok (.invokestatic 93, 3) := by decide +kernel
theorem dX7_raise_6 : decode cX7_raise 6 = .ok (.ifCond .ne 6, 3) := by decide +kernel
theorem dX7_raise_9 : decode cX7_raise 9 = .ok (.ldc 222, 2) := by decide +kernel
theorem dX7_raise_11 : decode cX7_raise 11 = .ok (.ireturn, 1) := by decide +kernel
theorem dX7_raise_12 : decode cX7_raise 12 = .ok (.iconst (-1), 1) := by decide +kernel
theorem dX7_raise_13 : decode cX7_raise 13 = .ok (.istore_n 2, 1) := by decide +kernel
theorem dX7_raise_14 : decode cX7_raise 14 = .ok (.aload_n 0, 1) := by decide +kernel
theorem dX7_raise_15 : decode cX7_raise 15 = .ok (.invokevirtual 241, 3) := by decide +kernel
theorem dX7_raise_18 : decode cX7_raise 18 = .ok (.istore_n 3, 1) := by decide +kernel
theorem dX7_raise_19 : decode cX7_raise 19 = .ok (.iconst 0, 1) := by decide +kernel
theorem dX7_raise_20 : decode cX7_raise 20 = .ok (.istore 4, 2) := by decide +kernel
theorem dX7_raise_22 : decode cX7_raise 22 = .ok (.iload 4, 2) := by decide +kernel
theorem dX7_raise_24 : decode cX7_raise 24 = .ok (.aload_n 0, 1) := by decide +kernel
theorem dX7_raise_25 : decode cX7_raise 25 = .ok (.getfield 90, 3) := by decide +kernel
theorem dX7_raise_28 : decode cX7_raise 28 = .ok (.if_icmp .ge 84, 3) := by decide +kernel
theorem dX7_raise_31 : decode cX7_raise 31 = .ok (.iload 4, 2) := by decide +kernel
theorem dX7_raise_33 : decode cX7_raise 33 = .ok (.iconst 1, 1) := by decide +kernel
theorem dX7_raise_34 : decode cX7_raise 34 = .ok (.iadd, 1) := by decide +kernel
theorem dX7_raise_35 : decode cX7_raise 35 = .ok (.istore 5, 2) := by decide +kernel
theorem dX7_raise_37 : decode cX7_raise 37 = .ok (.iload 5, 2) := by decide +kernel
theorem dX7_raise_39 : decode cX7_raise 39 = .ok (.aload_n 0, 1) := by decide +kernel
theorem dX7_raise_40 : decode cX7_raise 40 = .ok (.getfield 90, 3) := by decide +kernel
theorem dX7_raise_43 : decode cX7_raise 43 = .ok (.if_icmp .ge 63, 3) := by decide +kernel
theorem dX7_raise_46 : decode cX7_raise 46 = .ok (.aload_n 0, 1) := by decide +kernel
theorem dX7_raise_47 : decode cX7_raise 47 = .ok (.iload 4, 2) := by decide +kernel
theorem dX7_raise_49 : decode cX7_raise 49 = .ok (.iload 5, 2) := by decide +kernel
theorem dX7_raise_51 : decode cX7_raise 51 = .ok (.invokevirtual 244, 3) := by decide +kernel
theorem dX7_raise_54 : decode cX7_raise 54 = .ok (.aload_n 0, 1) := by decide +kernel
theorem dX7_raise_55 : decode cX7_raise 55 = .ok (.invokevirtual 241, 3) := by decide +kernel
theorem dX7_raise_58 : decode cX7_raise 58 = .ok (.istore 6, 2) := by decide +kernel
theorem dX7_raise_60 : decode cX7_raise 60 = .ok (.aload_n 0, 1) := by decide +kernel
theorem dX7_raise_61 : decode cX7_raise 61 = .ok (.iload 4, 2) := by decide +kernel
theorem dX7_raise_63 : decode cX7_raise 63 = .ok (.iload 5, 2) := by decide +kernel
theorem dX7_raise_65 : decode cX7_raise 65 = .ok (.invokevirtual 244, 3) := by decide +kernel
theorem dX7_raise_68 : decode cX7_raise 68 = .ok (.iload 6, 2) := by decide +kernel
theorem dX7_raise_70 : decode cX7_raise 70 = .ok (.iload_n 3, 1) := by decide +kernel
theorem dX7_raise_71 : decode cX7_raise 71 = .ok (.if_icmp .ge 14, 3) := by decide +kernel
theorem dX7_raise_74 : decode cX7_raise 74 = .ok (.bipush 10, 2) := by decide +kernel
theorem dX7_raise_76 : decode cX7_raise 76 = .ok (.iload 4, 2) := by decide +kernel
theorem dX7_raise_78 : decode cX7_raise 78 = .ok (.imul, 1) := by decide +kernel
theorem dX7_raise_79 : decode cX7_raise 79 = .ok (.iload 5, 2) := by decide +kernel
theorem dX7_raise_81 : decode cX7_raise 81 = .ok (.iadd, 1) := by decide +kernel
theorem dX7_raise_82 : decode cX7_raise 82 = .ok (.goto 4, 3) := by decide +kernel
theorem dX7_raise_85 : decode cX7_raise 85 = .ok (.iload_n 2, 1) := by decide +kernel
theorem dX7_raise_86 : decode cX7_raise 86 = .ok (.istore_n 2, 1) := by decide +kernel
theorem dX7_raise_87 : decode cX7_raise 87 = .ok (.iload 6, 2) := by decide +kernel
theorem dX7_raise_89 : decode cX7_raise 89 = .ok (.iload_n 3, 1) := by decide +kernel
theorem dX7_raise_90 : decode cX7_raise 90 = .ok (.if_icmp .ge 8, 3) := by decide +kernel
theorem dX7_raise_93 : decode cX7_raise 93 = .ok (.iload 6, 2) := by decide +kernel
theorem dX7_raise_95 : decode cX7_raise 95 = .ok (.goto 4, 3) := by decide +kernel
theorem dX7_raise_98 : decode cX7_raise 98 = .ok (.iload_n 3, 1) := by decide +kernel
theorem dX7_raise_99 : decode cX7_raise 99 = .ok (.istore_n 3, 1) := by decide +kernel
theorem dX7_raise_100 : decode cX7_raise 100 = .ok (.iinc 5 1, 3) := by decide +kernel
theorem dX7_raise_103 : decode cX7_raise 103 = .ok (.goto (-66), 3) := by decide +kernel
theorem dX7_raise_106 : decode cX7_raise 106 = .ok (.iinc 4 1, 3) := by decide +kernel
theorem dX7_raise_109 : decode cX7_raise 109 = .ok (.goto (-87), 3) := by decide +kernel
theorem dX7_raise_112 : decode cX7_raise 112 = .ok (.iload_n 1, 1) := by decide +kernel
theorem dX7_raise_113 : decode cX7_raise 113 = .ok (.ifCond .ne 7, 3) := by decide +kernel
theorem dX7_raise_116 : decode cX7_raise 116 = .ok (.iload_n 2, 1) := by decide +kernel
theorem dX7_raise_117 : decode cX7_raise 117 = .ok (.goto 4, 3) := by decide +kernel
theorem dX7_raise_120 : decode cX7_raise 120 = .ok (.iload_n 3, 1) := by decide +kernel
theorem dX7_raise_121 : decode cX7_raise 121 = .ok (.ireturn, 1) := by decide +kernel
set_option maxRecDepth 20000 in
theorem ggX7_exile_X7_in : GoodIn wsX7_exile wsX7_in := goodIn_q _ [7] [] rfl (by decide +kernel) (by decide +kernel)
set_option maxRecDepth 20000 in
theorem gX7_exile_X7_in : GoodIn wsX7_exile (va_wsS RX7 93 yX7_in wsX7_in) := goodIn_app (goodIn_of _ (by decide +kernel)) ggX7_exile_X7_in
set_option maxRecDepth 20000 in
theorem ggX7_exile_X7_mindsNow : GoodIn wsX7_exile wsX7_mindsNow := goodIn_q _ [11, 15, 30, 34, 39, 43, 49, 54, 62, 65, 69, 73] [3, 12, 13, 14, 6, 16, 17, 18, 19, 20, 21, 22, 23, 24, 25, 26, 27, 28, 29, 2, 31, 32, 33, 35, 36, 37, 38, 40, 41, 42, 44, 45, 46, 47, 48, 50, 51, 52, 53, 55, 56, 57, 58, 59, 60, 61, 63, 64, 66, 67, 68, 70, 71, 72, 74, 75, 76, 77, 78, 79, 80, 81, 82, 83, 84, 85, 86, 87, 88, 89, 90, 91, 92, 93, 94, 95, 96, 97, 98, 99, 100, 101, 102, 103, 104, 105, 106, 107, 108, 109, 110, 111, 112, 113, 114, 115, 116, 117] rfl (by decide +kernel) (by decide +kernel)
set_option maxRecDepth 20000 in
theorem gX7_exile_X7_mindsNow : GoodIn wsX7_exile (wsV RX7 241 RX7 yX7_mindsNow wsX7_mindsNow) := goodIn_app (goodIn_of _ (by decide +kernel)) ggX7_exile_X7_mindsNow
set_option maxRecDepth 20000 in
theorem ggX7_exile_X7_sups : GoodIn wsX7_exile wsX7_sups := goodIn_q _ [15, 30, 34, 39, 43, 49, 54, 62, 65, 69, 73] [16, 17, 18, 19, 20, 21, 3, 22, 23, 24, 25, 26, 27, 28, 29, 6, 2, 31, 32, 33, 35, 36, 37, 38, 40, 41, 42, 44, 45, 46, 47, 48, 50, 51, 52, 53, 55, 56, 57, 58, 59, 60, 61, 63, 64, 66, 67, 68, 70, 71, 72, 74, 75, 76, 77, 78, 79, 80, 81, 82, 83, 84, 85, 86, 87, 88, 89, 90, 91, 92, 93, 94, 95, 96, 97, 98, 99, 100, 101, 102, 103, 104, 105, 106, 107, 108, 109, 110, 111, 112, 113, 114, 115, 116, 117] rfl (by decide +kernel) (by decide +kernel)
set_option maxRecDepth 20000 in
theorem gX7_exile_X7_sups : GoodIn wsX7_exile (wsV RX7 219 RX7 yX7_sups wsX7_sups) := goodIn_app (goodIn_of _ (by decide +kernel)) ggX7_exile_X7_sups
theorem dX7_exile_0 : decode cX7_exile 0 = .ok (.iload_n 1, 1) := by decide +kernel
theorem dX7_exile_1 : decode cX7_exile 1 = .ok (.iconst 0, 1) := by decide +kernel
theorem dX7_exile_2 : decode cX7_exile 2 = .ok (.iconst 1, 1) := by decide +kernel
theorem dX7_exile_3 : decode cX7_exile 3 = .ok (.invokestatic 93, 3) := by decide +kernel
theorem dX7_exile_6 : decode cX7_exile 6 = .ok (.ifCond .ne 6, 3) := by decide +kernel
theorem dX7_exile_9 : decode cX7_exile 9 = .ok (.ldc 222, 2) := by decide +kernel
theorem dX7_exile_11 : decode cX7_exile 11 = .ok (.ireturn, 1) := by decide +kernel
theorem dX7_exile_12 : decode cX7_exile 12 = .ok (.iconst (-1), 1) := by decide +kernel
theorem dX7_exile_13 : decode cX7_exile 13 = .ok (.istore_n 2, 1) := by decide +kernel
theorem dX7_exile_14 : decode cX7_exile 14 = .ok (.aload_n 0, 1) := by decide +kernel
theorem dX7_exile_15 : decode cX7_exile 15 = .ok (.invokevirtual 241, 3) := by decide +kernel
theorem dX7_exile_18 : decode cX7_exile 18 = .ok (.istore_n 3, 1) := by decide +kernel
theorem dX7_exile_19 : decode cX7_exile 19 = .ok (.iconst 0, 1) := by decide +kernel
theorem dX7_exile_20 : decode cX7_exile 20 = .ok (.istore 4, 2) := by decide +kernel
theorem dX7_exile_22 : decode cX7_exile 22 = .ok (.iload 4, 2) := by decide +kernel
theorem dX7_exile_24 : decode cX7_exile 24 = .ok (.aload_n 0, 1) := by decide +kernel
theorem dX7_exile_25 : decode cX7_exile 25 = .ok (.getfield 90, 3) := by decide +kernel
theorem dX7_exile_28 : decode cX7_exile 28 = .ok (.if_icmp .ge 47, 3) := by decide +kernel
theorem dX7_exile_31 : decode cX7_exile 31 = .ok (.aload_n 0, 1) := by decide +kernel
theorem dX7_exile_32 : decode cX7_exile 32 = .ok (.iload 4, 2) := by decide +kernel
theorem dX7_exile_34 : decode cX7_exile 34 = .ok (.invokevirtual 219, 3) := by decide +kernel
theorem dX7_exile_37 : decode cX7_exile 37 = .ok (.aload_n 0, 1) := by decide +kernel
theorem dX7_exile_38 : decode cX7_exile 38 = .ok (.getfield 200, 3) := by decide +kernel
theorem dX7_exile_41 : decode cX7_exile 41 = .ok (.iload_n 3, 1) := by decide +kernel
theorem dX7_exile_42 : decode cX7_exile 42 = .ok (.if_icmp .ge 8, 3) := by decide +kernel
theorem dX7_exile_45 : decode cX7_exile 45 = .ok (.iload 4, 2) := by decide +kernel
theorem dX7_exile_47 : decode cX7_exile 47 = .ok (.goto 4, 3) := by decide +kernel
theorem dX7_exile_50 : decode cX7_exile 50 = .ok (.iload_n 2, 1) := by decide +kernel
theorem dX7_exile_51 : decode cX7_exile 51 = .ok (.istore_n 2, 1) := by decide +kernel
theorem dX7_exile_52 : decode cX7_exile 52 = .ok (.aload_n 0, 1) := by decide +kernel
theorem dX7_exile_53 : decode cX7_exile 53 = .ok (.getfield 200, 3) := by decide +kernel
theorem dX7_exile_56 : decode cX7_exile 56 = .ok (.iload_n 3, 1) := by decide +kernel
theorem dX7_exile_57 : decode cX7_exile 57 = .ok (.if_icmp .ge 10, 3) := by decide +kernel
theorem dX7_exile_60 : decode cX7_exile 60 = .ok (.aload_n 0, 1) := by decide +kernel
theorem dX7_exile_61 : decode cX7_exile 61 = .ok (.getfield 200, 3) := by decide +kernel
theorem dX7_exile_64 : decode cX7_exile 64 = .ok (.goto 4, 3) := by decide +kernel
theorem dX7_exile_67 : decode cX7_exile 67 = .ok (.iload_n 3, 1) := by decide +kernel
theorem dX7_exile_68 : decode cX7_exile 68 = .ok (.istore_n 3, 1) := by decide +kernel
theorem dX7_exile_69 : decode cX7_exile 69 = .ok (.iinc 4 1, 3) := by decide +kernel
theorem dX7_exile_72 : decode cX7_exile 72 = .ok (.goto (-50), 3) := by decide +kernel
theorem dX7_exile_75 : decode cX7_exile 75 = .ok (.iload_n 1, 1) := by decide +kernel
theorem dX7_exile_76 : decode cX7_exile 76 = .ok (.ifCond .ne 7, 3) := by decide +kernel
theorem dX7_exile_79 : decode cX7_exile 79 = .ok (.iload_n 2, 1) := by decide +kernel
theorem dX7_exile_80 : decode cX7_exile 80 = .ok (.goto 4, 3) := by decide +kernel
theorem dX7_exile_83 : decode cX7_exile 83 = .ok (.iload_n 3, 1) := by decide +kernel
theorem dX7_exile_84 : decode cX7_exile 84 = .ok (.ireturn, 1) := by decide +kernel
set_option maxRecDepth 20000 in
theorem ggX7_seat_X7_isOne : GoodIn wsX7_seat wsX7_isOne := goodIn_q _ [6, 10] [7, 8, 9, 5, 78, 79, 80, 81, 82, 83, 84, 85, 86, 87, 88, 89, 90, 91, 92, 93, 94, 95, 96, 97, 98, 99, 100, 101, 102, 103, 104, 105, 106, 107, 108, 109, 110, 111, 112, 113, 114, 115, 116, 117, 118, 119, 120] rfl (by decide +kernel) (by decide +kernel)
set_option maxRecDepth 20000 in
theorem gX7_seat_X7_isOne : GoodIn wsX7_seat (wsV RX7 176 RX7 yX7_isOne wsX7_isOne) := goodIn_app (goodIn_of _ (by decide +kernel)) ggX7_seat_X7_isOne
set_option maxRecDepth 20000 in
theorem ggX7_seat_X7_in : GoodIn wsX7_seat wsX7_in := goodIn_q _ [10] [] rfl (by decide +kernel) (by decide +kernel)
set_option maxRecDepth 20000 in
theorem gX7_seat_X7_in : GoodIn wsX7_seat (va_wsS RX7 93 yX7_in wsX7_in) := goodIn_app (goodIn_of _ (by decide +kernel)) ggX7_seat_X7_in
set_option maxRecDepth 20000 in
theorem ggX7_seat_X7_sups : GoodIn wsX7_seat wsX7_sups := goodIn_q _ [14, 30, 34, 38, 42, 48, 53, 61, 64, 68, 72] [15, 16, 17, 18, 19, 20, 21, 22, 23, 24, 25, 26, 27, 28, 29, 5, 7, 31, 32, 33, 1, 35, 36, 37, 39, 40, 41, 43, 44, 45, 46, 47, 49, 50, 51, 52, 54, 55, 56, 57, 58, 59, 60, 62, 63, 65, 66, 67, 69, 70, 71, 73, 78, 79, 80, 81, 82, 83, 84, 85, 86, 87, 88, 89, 90, 91, 92, 93, 94, 95, 96, 97, 98, 99, 100, 101, 102, 103, 104, 105, 106, 107, 108, 109, 110, 111, 112, 113, 114, 115, 116, 117, 118, 119, 120] rfl (by decide +kernel) (by decide +kernel)
set_option maxRecDepth 20000 in
theorem gX7_seat_X7_sups : GoodIn wsX7_seat (wsV RX7 219 RX7 yX7_sups wsX7_sups) := goodIn_app (goodIn_of _ (by decide +kernel)) ggX7_seat_X7_sups
set_option maxRecDepth 20000 in
theorem ggX7_seat_X7_lessFor : GoodIn wsX7_seat wsX7_lessFor := goodIn_q _ [77] [15, 18, 78, 79, 80, 81, 82, 83, 84, 85, 86, 87, 88, 89, 90, 91, 92, 93, 94, 95, 96, 97, 98, 99, 100, 101, 102, 103, 104, 105, 106, 107, 108, 109, 110, 111, 112, 113, 114, 115, 116, 117, 118, 119, 120] rfl (by decide +kernel) (by decide +kernel)
set_option maxRecDepth 20000 in
theorem gX7_seat_X7_lessFor : GoodIn wsX7_seat (wsV RX7 229 RX7 yX7_lessFor wsX7_lessFor) := goodIn_app (goodIn_of _ (by decide +kernel)) ggX7_seat_X7_lessFor
theorem dX7_seat_0 : decode cX7_seat 0 = .ok (.aload_n 0, 1) := by decide +kernel
theorem dX7_seat_1 : decode cX7_seat 1 = .ok (.iload_n 1, 1) := by decide +kernel
theorem dX7_seat_2 : decode cX7_seat 2 = .ok (.invokevirtual 176, 3) := by decide +kernel
theorem dX7_seat_5 : decode cX7_seat 5 = .ok (.ifCond .ne 7, 3) := by decide +kernel
theorem dX7_seat_8 : decode cX7_seat 8 = .ok (.sipush (-5000), 3) := by decide +kernel
theorem dX7_seat_11 : decode cX7_seat 11 = .ok (.ireturn, 1) := by decide +kernel
theorem dX7_seat_12 : decode cX7_seat 12 = .ok (.iload_n 2, 1) := by decide +kernel
theorem dX7_seat_13 : decode cX7_seat 13 = .ok (.iconst 0, 1) := by decide +kernel
theorem dX7_seat_14 : decode cX7_seat 14 = .ok (.iconst 1, 1) := by decide +kernel
theorem dX7_seat_15 : decode cX7_seat 15 = .ok (.invokestatic 93, 3) := by decide +kernel
theorem dX7_seat_18 : decode cX7_seat 18 = .ok (.ifCond .ne 7, 3) := by decide +kernel
theorem dX7_seat_21 : decode cX7_seat 21 = .ok (.sipush (-7000), 3) := by decide +kernel
theorem dX7_seat_24 : decode cX7_seat 24 = .ok (.ireturn, 1) := by decide +kernel
theorem dX7_seat_25 : decode cX7_seat 25 = .ok (.aload_n 0, 1) := by decide +kernel
theorem dX7_seat_26 : decode cX7_seat 26 = .ok (.getfield 16, 3) := by decide +kernel
theorem dX7_seat_29 : decode cX7_seat 29 = .ok (.iconst 2, 1) := by decide +kernel
theorem dX7_seat_30 : decode cX7_seat 30 = .ok (.iload_n 1, 1) := by decide +kernel
theorem dX7_seat_31 : decode cX7_seat 31 = .ok (.imul, 1) := by decide +kernel
theorem dX7_seat_32 : decode cX7_seat 32 = .ok (.iaload, 1) := by decide +kernel
theorem dX7_seat_33 : decode cX7_seat 33 = .ok (.istore_n 3, 1) := by decide +kernel
theorem dX7_seat_34 : decode cX7_seat 34 = .ok (.iconst (-1), 1) := by decide +kernel
theorem dX7_seat_35 : decode cX7_seat 35 = .ok (.istore 4, 2) := by decide +kernel
theorem dX7_seat_37 : decode cX7_seat 37 = .ok (.iconst 0, 1) := by decide +kernel
theorem dX7_seat_38 : decode cX7_seat 38 = .ok (.istore 5, 2) := by decide +kernel
theorem dX7_seat_40 : decode cX7_seat 40 = .ok (.iconst 0, 1) := by decide +kernel
theorem dX7_seat_41 : decode cX7_seat 41 = .ok (.istore 6, 2) := by decide +kernel
theorem dX7_seat_43 : decode cX7_seat 43 = .ok (.iload 6, 2) := by decide +kernel
theorem dX7_seat_45 : decode cX7_seat 45 = .ok (.bipush 99, 2) := by decide +kernel
theorem dX7_seat_47 : decode cX7_seat 47 = .ok (.if_icmp .gt 79, 3) := by decide +kernel
theorem dX7_seat_50 : decode cX7_seat 50 = .ok (.aload_n 0, 1) := by decide +kernel
theorem dX7_seat_51 : decode cX7_seat 51 = .ok (.getfield 16, 3) := by decide +kernel
theorem dX7_seat_54 : decode cX7_seat 54 = .ok (.iconst 2, 1) := by decide +kernel
theorem dX7_seat_55 : decode cX7_seat 55 = .ok (.iload_n 1, 1) := by decide +kernel
theorem dX7_seat_56 : decode cX7_seat 56 = .ok (.imul, 1) := by decide +kernel
theorem dX7_seat_57 : decode cX7_seat 57 = .ok (.iload 6, 2) := by decide +kernel
theorem dX7_seat_59 : decode cX7_seat 59 = .ok (.iastore, 1) := by decide +kernel
theorem dX7_seat_60 : decode cX7_seat 60 = .ok (.aload_n 0, 1) := by decide +kernel
theorem dX7_seat_61 : decode cX7_seat 61 = .ok (.iconst (-1), 1) := by decide +kernel
theorem dX7_seat_62 : decode cX7_seat 62 = .ok (.invokevirtual 219, 3) := by decide +kernel
theorem dX7_seat_65 : decode cX7_seat 65 = .ok (.aload_n 0, 1) := by decide +kernel
theorem dX7_seat_66 : decode cX7_seat 66 = .ok (.iload_n 1, 1) := by decide +kernel
theorem dX7_seat_67 : decode cX7_seat 67 = .ok (.invokevirtual 229, 3) := by decide +kernel
theorem dX7_seat_70 : decode cX7_seat 70 = .ok (.istore 7, 2) := by decide +kernel
theorem dX7_seat_72 : decode cX7_seat 72 = .ok (.iload 4, 2) := by decide +kernel
theorem dX7_seat_74 : decode cX7_seat 74 = .ok (.iconst (-1), 1) := by decide +kernel
theorem dX7_seat_75 : decode cX7_seat 75 = .ok (.if_icmp .eq 10, 3) := by decide +kernel
theorem dX7_seat_78 : decode cX7_seat 78 = .ok (.iload 7, 2) := by decide +kernel
theorem dX7_seat_80 : decode cX7_seat 80 = .ok (.iload 5, 2) := by decide +kernel
theorem dX7_seat_82 : decode cX7_seat 82 = .ok (.if_icmp .ge 7, 3) := by decide +kernel
theorem dX7_seat_85 : decode cX7_seat 85 = .ok (.iconst 1, 1) := by decide +kernel
theorem dX7_seat_86 : decode cX7_seat 86 = .ok (.goto 4, 3) := by decide +kernel
theorem dX7_seat_89 : decode cX7_seat 89 = .ok (.iconst 0, 1) := by decide +kernel
theorem dX7_seat_90 : decode cX7_seat 90 = .ok (.istore 8, 2) := by decide +kernel
theorem dX7_seat_92 : decode cX7_seat 92 = .ok (.iload 8, 2) := by decide +kernel
theorem dX7_seat_94 : decode cX7_seat 94 = .ok (.ifCond .eq 8, 3) := by decide +kernel
theorem dX7_seat_97 : decode cX7_seat 97 = .ok (.iload 6, 2) := by decide +kernel
theorem dX7_seat_99 : decode cX7_seat 99 = .ok (.goto 5, 3) := by decide +kernel
theorem dX7_seat_102 : decode cX7_seat 102 = .ok (.iload 4, 2) := by decide +kernel
theorem dX7_seat_104 : decode cX7_seat 104 = .ok (.istore 4, 2) := by decide +kernel
theorem dX7_seat_106 : decode cX7_seat 106 = .ok (.iload 8, 2) := by decide +kernel
theorem dX7_seat_108 : decode cX7_seat 108 = .ok (.ifCond .eq 8, 3) := by decide +kernel
theorem dX7_seat_111 : decode cX7_seat 111 = .ok (.iload 7, 2) := by decide +kernel
theorem dX7_seat_113 : decode cX7_seat 113 = .ok (.goto 5, 3) := by decide +kernel
theorem dX7_seat_116 : decode cX7_seat 116 = .ok (.iload 5, 2) := by decide +kernel
theorem dX7_seat_118 : decode cX7_seat 118 = .ok (.istore 5, 2) := by decide +kernel
theorem dX7_seat_120 : decode cX7_seat 120 = .ok (.iinc 6 1, 3) := by decide +kernel
theorem dX7_seat_123 : decode cX7_seat 123 = .ok (.goto (-80), 3) := by decide +kernel
theorem dX7_seat_126 : decode cX7_seat 126 = .ok (.aload_n 0, 1) := by decide +kernel
theorem dX7_seat_127 : decode cX7_seat 127 = .ok (.getfield 16, 3) := by decide +kernel
theorem dX7_seat_130 : decode cX7_seat 130 = .ok (.iconst 2, 1) := by decide +kernel
theorem dX7_seat_131 : decode cX7_seat 131 = .ok (.iload_n 1, 1) := by decide +kernel
theorem dX7_seat_132 : decode cX7_seat 132 = .ok (.imul, 1) := by decide +kernel
theorem dX7_seat_133 : decode cX7_seat 133 = .ok (.iload_n 3, 1) := by decide +kernel
theorem dX7_seat_134 : decode cX7_seat 134 = .ok (.iastore, 1) := by decide +kernel
theorem dX7_seat_135 : decode cX7_seat 135 = .ok (.iload_n 2, 1) := by decide +kernel
theorem dX7_seat_136 : decode cX7_seat 136 = .ok (.ifCond .ne 8, 3) := by decide +kernel
theorem dX7_seat_139 : decode cX7_seat 139 = .ok (.iload 4, 2) := by decide +kernel
theorem dX7_seat_141 : decode cX7_seat 141 = .ok (.goto 5, 3) := by decide +kernel
theorem dX7_seat_144 : decode cX7_seat 144 = .ok (.iload 5, 2) := by decide +kernel
theorem dX7_seat_146 : decode cX7_seat 146 = .ok (.ireturn, 1) := by decide +kernel
set_option maxRecDepth 20000 in
theorem ggX7_orders_X7_within : GoodIn wsX7_orders wsX7_within := goodIn_q _ [7] [] rfl (by decide +kernel) (by decide +kernel)
set_option maxRecDepth 20000 in
theorem gX7_orders_X7_within : GoodIn wsX7_orders (va_wsS RX7 173 yX7_within wsX7_within) := goodIn_app (goodIn_of _ (by decide +kernel)) ggX7_orders_X7_within
theorem dX7_orders_0 : decode cX7_orders 0 = .ok (.iload_n 1, 1) := by decide +kernel
theorem dX7_orders_1 : decode cX7_orders 1 = .ok (.istore_n 2, 1) := by decide +kernel
theorem dX7_orders_2 : decode cX7_orders 2 = .ok (.iconst 0, 1) := by decide +kernel
theorem dX7_orders_3 : decode cX7_orders 3 = .ok (.istore_n 3, 1) := by decide +kernel
theorem dX7_orders_4 : decode cX7_orders 4 = .ok (.iconst 1, 1) := by decide +kernel
theorem dX7_orders_5 : decode cX7_orders 5 = .ok (.istore 4, 2) := by decide +kernel
theorem dX7_orders_7 : decode cX7_orders 7 = .ok (.aload_n 0, 1) := by decide +kernel
theorem dX7_orders_8 : decode cX7_orders 8 = .ok (.iconst 0, 1) := by decide +kernel
theorem dX7_orders_9 : decode cX7_orders 9 = .ok (.putfield 248, 3) := by decide +kernel
theorem dX7_orders_12 : decode cX7_orders 12 = .ok (.aload_n 0, 1) := by decide +kernel
theorem dX7_orders_13 : decode cX7_orders 13 = .ok (.getfield 90, 3) := by decide +kernel
theorem dX7_orders_16 : decode cX7_orders 16 = .ok (.iconst 1, 1) := by decide +kernel
theorem dX7_orders_17 : decode cX7_orders 17 = .ok (.isub, 1) := by decide +kernel
theorem dX7_orders_18 : decode cX7_orders 18 = .ok (.istore 5, 2) := by decide +kernel
theorem dX7_orders_20 : decode cX7_orders 20 = .ok (.iload 5, 2) := by decide +kernel
theorem dX7_orders_22 : decode cX7_orders 22 = .ok (.ifCond .lt 75, 3) := by decide +kernel
theorem dX7_orders_25 : decode cX7_orders 25 = .ok (.iload_n 2, 1) := by decide +kernel
theorem dX7_orders_26 : decode cX7_orders 26 = .ok (.aload_n 0, 1) := by decide +kernel
theorem dX7_orders_27 : decode cX7_orders 27 = .ok (.getfield 90, 3) := by decide +kernel
theorem dX7_orders_30 : decode cX7_orders 30 = .ok (.irem, 1) := by decide +kernel
theorem dX7_orders_31 : decode cX7_orders 31 = .ok (.iconst 0, 1) := by decide +kernel
theorem dX7_orders_32 : decode cX7_orders 32 = .ok (.iconst 5, 1) := by decide +kernel
theorem dX7_orders_33 : decode cX7_orders 33 = .ok (.invokestatic 173, 3) := by decide +kernel
theorem dX7_orders_36 : decode cX7_orders 36 = .ok (.istore 6, 2) := by decide +kernel
theorem dX7_orders_38 : decode cX7_orders 38 = .ok (.iload_n 2, 1) := by decide +kernel
theorem dX7_orders_39 : decode cX7_orders 39 = .ok (.aload_n 0, 1) := by decide +kernel
theorem dX7_orders_40 : decode cX7_orders 40 = .ok (.getfield 90, 3) := by decide +kernel
theorem dX7_orders_43 : decode cX7_orders 43 = .ok (.idiv, 1) := by decide +kernel
theorem dX7_orders_44 : decode cX7_orders 44 = .ok (.istore_n 2, 1) := by decide +kernel
theorem dX7_orders_45 : decode cX7_orders 45 = .ok (.iload_n 3, 1) := by decide +kernel
theorem dX7_orders_46 : decode cX7_orders 46 = .ok (.iconst 1, 1) := by decide +kernel
theorem dX7_orders_47 : decode cX7_orders 47 = .ok (.iload 6, 2) := by decide +kernel
theorem dX7_orders_49 : decode cX7_orders 49 = .ok (.ishl, 1) := by decide +kernel
theorem dX7_orders_50 : decode cX7_orders 50 = .ok (.ior, 1) := by decide +kernel
theorem dX7_orders_51 : decode cX7_orders 51 = .ok (.istore_n 3, 1) := by decide +kernel
theorem dX7_orders_52 : decode cX7_orders 52 = .ok (.aload_n 0, 1) := by decide +kernel
theorem dX7_orders_53 : decode cX7_orders 53 = .ok (.getfield 16, 3) := by decide +kernel
theorem dX7_orders_56 : decode cX7_orders 56 = .ok (.iconst 2, 1) := by decide +kernel
theorem dX7_orders_57 : decode cX7_orders 57 = .ok (.iload 6, 2) := by decide +kernel
theorem dX7_orders_59 : decode cX7_orders 59 = .ok (.imul, 1) := by decide +kernel
theorem dX7_orders_60 : decode cX7_orders 60 = .ok (.aload_n 0, 1) := by decide +kernel
theorem dX7_orders_61 : decode cX7_orders 61 = .ok (.getfield 90, 3) := by decide +kernel
theorem dX7_orders_64 : decode cX7_orders 64 = .ok (.iload 5, 2) := by decide +kernel
theorem dX7_orders_66 : decode cX7_orders 66 = .ok (.isub, 1) := by decide +kernel
theorem dX7_orders_67 : decode cX7_orders 67 = .ok (.iastore, 1) := by decide +kernel
theorem dX7_orders_68 : decode cX7_orders 68 = .ok (.aload_n 0, 1) := by decide +kernel
theorem dX7_orders_69 : decode cX7_orders 69 = .ok (.dup, 1) := by decide +kernel
theorem dX7_orders_70 : decode cX7_orders 70 = .ok (.getfield 248, 3) := by decide +kernel
theorem dX7_orders_73 : decode cX7_orders 73 = .ok (.iload 4, 2) := by decide +kernel
theorem dX7_orders_75 : decode cX7_orders 75 = .ok (.iload 6, 2) := by decide +kernel
theorem dX7_orders_77 : decode cX7_orders 77 = .ok (.iconst 1, 1) := by decide +kernel
theorem dX7_orders_78 : decode cX7_orders 78 = .ok (.iadd, 1) := by decide +kernel
theorem dX7_orders_79 : decode cX7_orders 79 = .ok (.imul, 1) := by decide +kernel
theorem dX7_orders_80 : decode cX7_orders 80 = .ok (.iadd, 1) := by decide +kernel
theorem dX7_orders_81 : decode cX7_orders 81 = .ok (.putfield 248, 3) := by decide +kernel
theorem dX7_orders_84 : decode cX7_orders 84 = .ok (.iload 4, 2) := by decide +kernel
theorem dX7_orders_86 : decode cX7_orders 86 = .ok (.bipush 10, 2) := by decide +kernel
theorem dX7_orders_88 : decode cX7_orders 88 = .ok (.imul, 1) := by decide +kernel
theorem dX7_orders_89 : decode cX7_orders 89 = .ok (.istore 4, 2) := by decide +kernel
theorem dX7_orders_91 : decode cX7_orders 91 = .ok (.iinc 5 (-1), 3) := by decide +kernel
theorem dX7_orders_94 : decode cX7_orders 94 = .ok (.goto (-74), 3) := by decide +kernel
theorem dX7_orders_97 : decode cX7_orders 97 = .ok (.iload_n 3, 1) := by decide +kernel
theorem dX7_orders_98 : decode cX7_orders 98 = .ok (.iconst 1, 1) := by decide +kernel
theorem dX7_orders_99 : decode cX7_orders 99 = .ok (.aload_n 0, 1) := by decide +kernel
theorem dX7_orders_100 : decode cX7_orders 100 = .ok (.getfield 90, 3) := by decide +kernel
theorem dX7_orders_103 : decode cX7_orders 103 = .ok (.ishl, 1) := by decide +kernel
theorem dX7_orders_104 : decode cX7_orders 104 = .ok (.iconst 1, 1) := by decide +kernel
theorem dX7_orders_105 : decode cX7_orders 105 = .ok (.isub, 1) := by decide +kernel
theorem dX7_orders_106 : decode cX7_orders 106 = .ok (.if_icmp .ne 7, 3) := by decide +kernel
theorem dX7_orders_109 : decode cX7_orders 109 = .ok (.iconst 1, 1) := by decide +kernel
theorem dX7_orders_110 : decode cX7_orders 110 = .ok (.goto 4, 3) := by decide +kernel
theorem dX7_orders_113 : decode cX7_orders 113 = .ok (.iconst 0, 1) := by decide +kernel
theorem dX7_orders_114 : decode cX7_orders 114 = .ok (.ireturn, 1) := by decide +kernel
set_option maxRecDepth 20000 in
theorem ggX7_order_X7_in : GoodIn wsX7_order wsX7_in := goodIn_q _ [7] [] rfl (by decide +kernel) (by decide +kernel)
set_option maxRecDepth 20000 in
theorem gX7_order_X7_in : GoodIn wsX7_order (va_wsS RX7 93 yX7_in wsX7_in) := goodIn_app (goodIn_of _ (by decide +kernel)) ggX7_order_X7_in
set_option maxRecDepth 20000 in
theorem ggX7_order_X7_keeps : GoodIn wsX7_order wsX7_keeps := goodIn_q _ [11] [12, 13, 14, 89, 90, 91, 92, 93, 94, 95, 96, 97, 98, 99, 100, 101, 102, 103, 104, 105, 106, 107, 108, 109, 110, 111, 112, 113, 114, 115, 116, 117, 118, 119, 120, 121, 122, 123, 124, 125, 126, 127, 128, 129, 130, 131] rfl (by decide +kernel) (by decide +kernel)
set_option maxRecDepth 20000 in
theorem gX7_order_X7_keeps : GoodIn wsX7_order (wsV RX7 235 RX7 yX7_keeps wsX7_keeps) := goodIn_app (goodIn_of _ (by decide +kernel)) ggX7_order_X7_keeps
set_option maxRecDepth 20000 in
theorem ggX7_order_X7_orders : GoodIn wsX7_order wsX7_orders := goodIn_q _ [18, 21] [3, 2, 13, 19, 20, 6, 89, 90, 91, 92, 93, 94, 95, 96, 97, 98, 99, 100, 101, 102, 103, 104, 105, 106, 107, 108, 109, 110, 111, 112, 113, 114, 115, 116, 117, 118, 119, 120, 121, 122, 123, 124, 125, 126, 127, 128, 129, 130, 131] rfl (by decide +kernel) (by decide +kernel)
set_option maxRecDepth 20000 in
theorem gX7_order_X7_orders : GoodIn wsX7_order (wsV RX7 251 RX7 yX7_orders wsX7_orders) := goodIn_app (goodIn_of _ (by decide +kernel)) ggX7_order_X7_orders
set_option maxRecDepth 20000 in
theorem ggX7_order_X7_mindsNow : GoodIn wsX7_order wsX7_mindsNow := goodIn_q _ [25, 30, 45, 49, 53, 57, 63, 68, 76, 21, 80, 84] [26, 27, 28, 29, 6, 31, 32, 33, 34, 35, 36, 37, 38, 39, 40, 41, 42, 43, 44, 2, 46, 47, 48, 13, 50, 51, 52, 54, 55, 56, 58, 59, 60, 61, 62, 64, 65, 66, 67, 69, 70, 71, 72, 73, 74, 75, 19, 20, 77, 78, 79, 81, 82, 83, 14, 89, 90, 91, 92, 93, 94, 95, 96, 97, 98, 99, 100, 101, 102, 103, 104, 105, 106, 107, 108, 109, 110, 111, 112, 113, 114, 115, 116, 117, 118, 119, 120, 121, 122, 123, 124, 125, 126, 127, 128, 129, 130, 131] rfl (by decide +kernel) (by decide +kernel)
set_option maxRecDepth 20000 in
theorem gX7_order_X7_mindsNow : GoodIn wsX7_order (wsV RX7 241 RX7 yX7_mindsNow wsX7_mindsNow) := goodIn_app (goodIn_of _ (by decide +kernel)) ggX7_order_X7_mindsNow
set_option maxRecDepth 20000 in
theorem ggX7_order_X7_lays : GoodIn wsX7_order wsX7_lays := goodIn_q _ [88] [13, 12, 14, 89, 90, 91, 92, 93, 94, 95, 96, 97, 98, 99, 100, 101, 102, 103, 104, 105, 106, 107, 108, 109, 110, 111, 112, 113, 114, 115, 116, 117, 118, 119, 120, 121, 122, 123, 124, 125, 126, 127, 128, 129, 130, 131] rfl (by decide +kernel) (by decide +kernel)
set_option maxRecDepth 20000 in
theorem gX7_order_X7_lays : GoodIn wsX7_order (wsV RX7 238 RX7 yX7_lays wsX7_lays) := goodIn_app (goodIn_of _ (by decide +kernel)) ggX7_order_X7_lays
theorem dX7_order_0 : decode cX7_order 0 = .ok (.iload_n 1, 1) := by decide +kernel
theorem dX7_order_1 : decode cX7_order 1 = .ok (.iconst 0, 1) := by decide +kernel
theorem dX7_order_2 : decode cX7_order 2 = .ok (.iconst 1, 1) := by decide +kernel
theorem dX7_order_3 : decode cX7_order 3 = .ok (.invokestatic 93, 3) := by decide +kernel
theorem dX7_order_6 : decode cX7_order 6 = .ok (.ifCond .ne 6, 3) := by decide +kernel
theorem dX7_order_9 : decode cX7_order 9 = .ok (.ldc 222, 2) := by decide +kernel
theorem dX7_order_11 : decode cX7_order 11 = .ok (.ireturn, 1) := by decide +kernel
theorem dX7_order_12 : decode cX7_order 12 = .ok (.aload_n 0, 1) := by decide +kernel
theorem dX7_order_13 : decode cX7_order 13 = .ok (.getfield 90, 3) := by decide +kernel
theorem dX7_order_16 : decode cX7_order 16 = .ok (.ifCond .ne 5, 3) := by decide +kernel
theorem dX7_order_19 : decode cX7_order 19 = .ok (.iconst 0, 1) := by decide +kernel
theorem dX7_order_20 : decode cX7_order 20 = .ok (.ireturn, 1) := by decide +kernel
theorem dX7_order_21 : decode cX7_order 21 = .ok (.iconst 1, 1) := by decide +kernel
theorem dX7_order_22 : decode cX7_order 22 = .ok (.istore_n 2, 1) := by decide +kernel
theorem dX7_order_23 : decode cX7_order 23 = .ok (.iconst 0, 1) := by decide +kernel
theorem dX7_order_24 : decode cX7_order 24 = .ok (.istore_n 3, 1) := by decide +kernel
theorem dX7_order_25 : decode cX7_order 25 = .ok (.iload_n 3, 1) := by decide +kernel
theorem dX7_order_26 : decode cX7_order 26 = .ok (.aload_n 0, 1) := by decide +kernel
theorem dX7_order_27 : decode cX7_order 27 = .ok (.getfield 90, 3) := by decide +kernel
theorem dX7_order_30 : decode cX7_order 30 = .ok (.if_icmp .ge 16, 3) := by decide +kernel
theorem dX7_order_33 : decode cX7_order 33 = .ok (.iload_n 2, 1) := by decide +kernel
theorem dX7_order_34 : decode cX7_order 34 = .ok (.aload_n 0, 1) := by decide +kernel
theorem dX7_order_35 : decode cX7_order 35 = .ok (.getfield 90, 3) := by decide +kernel
theorem dX7_order_38 : decode cX7_order 38 = .ok (.imul, 1) := by decide +kernel
theorem dX7_order_39 : decode cX7_order 39 = .ok (.istore_n 2, 1) := by decide +kernel
theorem dX7_order_40 : decode cX7_order 40 = .ok (.iinc 3 1, 3) := by decide +kernel
theorem dX7_order_43 : decode cX7_order 43 = .ok (.goto (-18), 3) := by decide +kernel
theorem dX7_order_46 : decode cX7_order 46 = .ok (.iconst (-1), 1) := by decide +kernel
theorem dX7_order_47 : decode cX7_order 47 = .ok (.istore_n 3, 1) := by decide +kernel
theorem dX7_order_48 : decode cX7_order 48 = .ok (.iconst 0, 1) := by decide +kernel
theorem dX7_order_49 : decode cX7_order 49 = .ok (.istore 4, 2) := by decide +kernel
theorem dX7_order_51 : decode cX7_order 51 = .ok (.aload_n 0, 1) := by decide +kernel
theorem dX7_order_52 : decode cX7_order 52 = .ok (.invokevirtual 235, 3) := by decide +kernel
theorem dX7_order_55 : decode cX7_order 55 = .ok (.iconst 0, 1) := by decide +kernel
theorem dX7_order_56 : decode cX7_order 56 = .ok (.istore 5, 2) := by decide +kernel
theorem dX7_order_58 : decode cX7_order 58 = .ok (.iload 5, 2) := by decide +kernel
theorem dX7_order_60 : decode cX7_order 60 = .ok (.iload_n 2, 1) := by decide +kernel
theorem dX7_order_61 : decode cX7_order 61 = .ok (.if_icmp .ge 71, 3) := by decide +kernel
theorem dX7_order_64 : decode cX7_order 64 = .ok (.aload_n 0, 1) := by decide +kernel
theorem dX7_order_65 : decode cX7_order 65 = .ok (.iload 5, 2) := by decide +kernel
theorem dX7_order_67 : decode cX7_order 67 = .ok (.invokevirtual 251, 3) := by decide +kernel
theorem dX7_order_70 : decode cX7_order 70 = .ok (.ifCond .eq 56, 3) := by decide +kernel
theorem dX7_order_73 : decode cX7_order 73 = .ok (.aload_n 0, 1) := by decide +kernel
theorem dX7_order_74 : decode cX7_order 74 = .ok (.invokevirtual 241, 3) := by decide +kernel
theorem dX7_order_77 : decode cX7_order 77 = .ok (.istore 6, 2) := by decide +kernel
theorem dX7_order_79 : decode cX7_order 79 = .ok (.iload_n 3, 1) := by decide +kernel
theorem dX7_order_80 : decode cX7_order 80 = .ok (.iconst (-1), 1) := by decide +kernel
theorem dX7_order_81 : decode cX7_order 81 = .ok (.if_icmp .eq 10, 3) := by decide +kernel
theorem dX7_order_84 : decode cX7_order 84 = .ok (.iload 6, 2) := by decide +kernel
theorem dX7_order_86 : decode cX7_order 86 = .ok (.iload 4, 2) := by decide +kernel
theorem dX7_order_88 : decode cX7_order 88 = .ok (.if_icmp .ge 7, 3) := by decide +kernel
theorem dX7_order_91 : decode cX7_order 91 = .ok (.iconst 1, 1) := by decide +kernel
theorem dX7_order_92 : decode cX7_order 92 = .ok (.goto 4, 3) := by decide +kernel
theorem dX7_order_95 : decode cX7_order 95 = .ok (.iconst 0, 1) := by decide +kernel
theorem dX7_order_96 : decode cX7_order 96 = .ok (.istore 7, 2) := by decide +kernel
theorem dX7_order_98 : decode cX7_order 98 = .ok (.iload 7, 2) := by decide +kernel
theorem dX7_order_100 : decode cX7_order 100 = .ok (.ifCond .eq 10, 3) := by decide +kernel
theorem dX7_order_103 : decode cX7_order 103 = .ok (.aload_n 0, 1) := by decide +kernel
theorem dX7_order_104 : decode cX7_order 104 = .ok (.getfield 248, 3) := by decide +kernel
theorem dX7_order_107 : decode cX7_order 107 = .ok (.goto 4, 3) := by decide +kernel
theorem dX7_order_110 : decode cX7_order 110 = .ok (.iload_n 3, 1) := by decide +kernel
theorem dX7_order_111 : decode cX7_order 111 = .ok (.istore_n 3, 1) := by decide +kernel
theorem dX7_order_112 : decode cX7_order 112 = .ok (.iload 7, 2) := by decide +kernel
theorem dX7_order_114 : decode cX7_order 114 = .ok (.ifCond .eq 8, 3) := by decide +kernel
theorem dX7_order_117 : decode cX7_order 117 = .ok (.iload 6, 2) := by decide +kernel
theorem dX7_order_119 : decode cX7_order 119 = .ok (.goto 5, 3) := by decide +kernel
theorem dX7_order_122 : decode cX7_order 122 = .ok (.iload 4, 2) := by decide +kernel
theorem dX7_order_124 : decode cX7_order 124 = .ok (.istore 4, 2) := by decide +kernel
theorem dX7_order_126 : decode cX7_order 126 = .ok (.iinc 5 1, 3) := by decide +kernel
theorem dX7_order_129 : decode cX7_order 129 = .ok (.goto (-71), 3) := by decide +kernel
theorem dX7_order_132 : decode cX7_order 132 = .ok (.aload_n 0, 1) := by decide +kernel
theorem dX7_order_133 : decode cX7_order 133 = .ok (.invokevirtual 238, 3) := by decide +kernel
theorem dX7_order_136 : decode cX7_order 136 = .ok (.iload_n 1, 1) := by decide +kernel
theorem dX7_order_137 : decode cX7_order 137 = .ok (.ifCond .ne 7, 3) := by decide +kernel
theorem dX7_order_140 : decode cX7_order 140 = .ok (.iload_n 3, 1) := by decide +kernel
theorem dX7_order_141 : decode cX7_order 141 = .ok (.goto 5, 3) := by decide +kernel
theorem dX7_order_144 : decode cX7_order 144 = .ok (.iload 4, 2) := by decide +kernel
theorem dX7_order_146 : decode cX7_order 146 = .ok (.ireturn, 1) := by decide +kernel
theorem dX7_lowest_0 : decode cX7_lowest 0 = .ok (.lload_n 0, 1) := by decide +kernel
theorem dX7_lowest_1 : decode cX7_lowest 1 = .ok (.lconst 0, 1) := by decide +kernel
theorem dX7_lowest_2 : decode cX7_lowest 2 = .ok (.lcmp, 1) := by decide +kernel
theorem dX7_lowest_3 : decode cX7_lowest 3 = .ok (.ifCond .ne 7, 3) := by decide +kernel
theorem dX7_lowest_6 : decode cX7_lowest 6 = .ok (.iload 4, 2) := by decide +kernel
theorem dX7_lowest_8 : decode cX7_lowest 8 = .ok (.i2l, 1) := by decide +kernel
theorem dX7_lowest_9 : decode cX7_lowest 9 = .ok (.lreturn, 1) := by decide +kernel
theorem dX7_lowest_10 : decode cX7_lowest 10 = .ok (.lload_n 0, 1) := by decide +kernel
theorem dX7_lowest_11 : decode cX7_lowest 11 = .ok (.lstore 5, 2) := by decide +kernel
theorem dX7_lowest_13 : decode cX7_lowest 13 = .ok (.lload_n 2, 1) := by decide +kernel
theorem dX7_lowest_14 : decode cX7_lowest 14 = .ok (.lstore 7, 2) := by decide +kernel
theorem dX7_lowest_16 : decode cX7_lowest 16 = .ok (.lload 7, 2) := by decide +kernel
theorem dX7_lowest_18 : decode cX7_lowest 18 = .ok (.lconst 0, 1) := by decide +kernel
theorem dX7_lowest_19 : decode cX7_lowest 19 = .ok (.lcmp, 1) := by decide +kernel
theorem dX7_lowest_20 : decode cX7_lowest 20 = .ok (.ifCond .eq 21, 3) := by decide +kernel
theorem dX7_lowest_23 : decode cX7_lowest 23 = .ok (.lload 5, 2) := by decide +kernel
theorem dX7_lowest_25 : decode cX7_lowest 25 = .ok (.lload 7, 2) := by decide +kernel
theorem dX7_lowest_27 : decode cX7_lowest 27 = .ok (.lrem, 1) := by decide +kernel
theorem dX7_lowest_28 : decode cX7_lowest 28 = .ok (.lstore 9, 2) := by decide +kernel
theorem dX7_lowest_30 : decode cX7_lowest 30 = .ok (.lload 7, 2) := by decide +kernel
theorem dX7_lowest_32 : decode cX7_lowest 32 = .ok (.lstore 5, 2) := by decide +kernel
theorem dX7_lowest_34 : decode cX7_lowest 34 = .ok (.lload 9, 2) := by decide +kernel
theorem dX7_lowest_36 : decode cX7_lowest 36 = .ok (.lstore 7, 2) := by decide +kernel
theorem dX7_lowest_38 : decode cX7_lowest 38 = .ok (.goto (-22), 3) := by decide +kernel
theorem dX7_lowest_41 : decode cX7_lowest 41 = .ok (.iload 4, 2) := by decide +kernel
theorem dX7_lowest_43 : decode cX7_lowest 43 = .ok (.ifCond .ne 7, 3) := by decide +kernel
theorem dX7_lowest_46 : decode cX7_lowest 46 = .ok (.lload_n 0, 1) := by decide +kernel
theorem dX7_lowest_47 : decode cX7_lowest 47 = .ok (.goto 4, 3) := by decide +kernel
theorem dX7_lowest_50 : decode cX7_lowest 50 = .ok (.lload_n 2, 1) := by decide +kernel
theorem dX7_lowest_51 : decode cX7_lowest 51 = .ok (.lload 5, 2) := by decide +kernel
theorem dX7_lowest_53 : decode cX7_lowest 53 = .ok (.ldiv, 1) := by decide +kernel
theorem dX7_lowest_54 : decode cX7_lowest 54 = .ok (.lreturn, 1) := by decide +kernel
set_option maxRecDepth 20000 in
theorem ggX7_mean_X7_in : GoodIn wsX7_mean wsX7_in := goodIn_q _ [8] [] rfl (by decide +kernel) (by decide +kernel)
set_option maxRecDepth 20000 in
theorem gX7_mean_X7_in : GoodIn wsX7_mean (va_wsS RX7 93 yX7_in wsX7_in) := goodIn_app (goodIn_of _ (by decide +kernel)) ggX7_mean_X7_in
set_option maxRecDepth 20000 in
theorem ggX7_mean_X7_sups : GoodIn wsX7_mean wsX7_sups := goodIn_q _ [12, 26, 30, 35, 39, 45, 50, 58, 61, 65, 69] [13, 14, 15, 16, 17, 18, 19, 3, 4, 20, 21, 22, 23, 24, 25, 7, 1, 27, 28, 29, 31, 32, 33, 34, 36, 37, 38, 40, 41, 42, 43, 44, 46, 47, 48, 49, 51, 52, 53, 54, 55, 56, 57, 59, 60, 62, 63, 64, 66, 67, 68, 70, 74, 75, 76, 77, 78, 79, 80, 81, 82, 83, 84, 85, 86, 87, 88, 89, 90, 91, 92, 93, 94, 95, 96, 97, 98, 99, 100, 101, 102, 103, 104, 105, 106, 107, 108, 109, 110, 111, 112, 113, 114, 115, 116] rfl (by decide +kernel) (by decide +kernel)
set_option maxRecDepth 20000 in
theorem gX7_mean_X7_sups : GoodIn wsX7_mean (wsV RX7 219 RX7 yX7_sups wsX7_sups) := goodIn_app (goodIn_of _ (by decide +kernel)) ggX7_mean_X7_sups
set_option maxRecDepth 20000 in
theorem ggX7_mean_X7_lowest : GoodIn wsX7_mean wsX7_lowest := goodIn_q _ [73] [] rfl (by decide +kernel) (by decide +kernel)
set_option maxRecDepth 20000 in
theorem gX7_mean_X7_lowest : GoodIn wsX7_mean (va_wsS RX7 256 yX7_lowest wsX7_lowest) := goodIn_app (goodIn_of _ (by decide +kernel)) ggX7_mean_X7_lowest
theorem dX7_mean_0 : decode cX7_mean 0 = .ok (.iload_n 1, 1) := by decide +kernel
theorem dX7_mean_1 : decode cX7_mean 1 = .ok (.iconst 0, 1) := by decide +kernel
theorem dX7_mean_2 : decode cX7_mean 2 = .ok (.iconst 1, 1) := by decide +kernel
theorem dX7_mean_3 : decode cX7_mean 3 = .ok (.invokestatic 93, 3) := by decide +kernel
theorem dX7_mean_6 : decode cX7_mean 6 = .ok (.ifCond .eq 10, 3) := by decide +kernel
theorem dX7_mean_9 : decode cX7_mean 9 = .ok (.aload_n 0, 1) := by decide +kernel
theorem dX7_mean_10 : decode cX7_mean 10 = .ok (.getfield 90, 3) := by decide +kernel
theorem dX7_mean_13 : decode cX7_mean 13 = .ok (.ifCond .ne 7, 3) := by decide +kernel
theorem dX7_mean_16 : decode cX7_mean 16 = .ok (.ldc2_w 254, 3) := by decide +kernel
theorem dX7_mean_19 : decode cX7_mean 19 = .ok (.lreturn, 1) := by decide +kernel
theorem dX7_mean_20 : decode cX7_mean 20 = .ok (.aload_n 0, 1) := by decide +kernel
theorem dX7_mean_21 : decode cX7_mean 21 = .ok (.iconst (-1), 1) := by decide +kernel
theorem dX7_mean_22 : decode cX7_mean 22 = .ok (.invokevirtual 219, 3) := by decide +kernel
theorem dX7_mean_25 : decode cX7_mean 25 = .ok (.aload_n 0, 1) := by decide +kernel
theorem dX7_mean_26 : decode cX7_mean 26 = .ok (.getfield 203, 3) := by decide +kernel
theorem dX7_mean_29 : decode cX7_mean 29 = .ok (.i2l, 1) := by decide +kernel
theorem dX7_mean_30 : decode cX7_mean 30 = .ok (.aload_n 0, 1) := by decide +kernel
theorem dX7_mean_31 : decode cX7_mean 31 = .ok (.getfield 206, 3) := by decide +kernel
theorem dX7_mean_34 : decode cX7_mean 34 = .ok (.i2l, 1) := by decide +kernel
theorem dX7_mean_35 : decode cX7_mean 35 = .ok (.iload_n 1, 1) := by decide +kernel
theorem dX7_mean_36 : decode cX7_mean 36 = .ok (.invokestatic 256, 3) := by decide +kernel
theorem dX7_mean_39 : decode cX7_mean 39 = .ok (.lreturn, 1) := by decide +kernel
set_option maxRecDepth 20000 in
theorem ggX7_sheetWrong_X7_in : GoodIn wsX7_sheetWrong wsX7_in := goodIn_q _ [7] [] rfl (by decide +kernel) (by decide +kernel)
set_option maxRecDepth 20000 in
theorem gX7_sheetWrong_X7_in : GoodIn wsX7_sheetWrong (va_wsS RX7 93 yX7_in wsX7_in) := goodIn_app (goodIn_of _ (by decide +kernel)) ggX7_sheetWrong_X7_in
theorem dX7_sheetWrong_0 : decode cX7_sheetWrong 0 = .ok (.iload_n 1, 1) := by decide +kernel
theorem dX7_sheetWrong_1 : decode cX7_sheetWrong 1 = .ok (.iconst 0, 1) := by decide +kernel
theorem dX7_sheetWrong_2 : decode cX7_sheetWrong 2 = .ok (.iconst 3, 1) := by decide +kernel
theorem dX7_sheetWrong_3 : decode cX7_sheetWrong 3 = .ok (.invokestatic 93, 3) := by decide +kernel
theorem dX7_sheetWrong_6 : decode cX7_sheetWrong 6 = .ok (.ifCond .ne 6, 3) := by decide +kernel
theorem dX7_sheetWrong_9 : decode cX7_sheetWrong 9 = .ok (.bipush (-2), 2) := by decide +kernel
theorem dX7_sheetWrong_11 : decode cX7_sheetWrong 11 = .ok (.ireturn, 1) := by decide +kernel
theorem dX7_sheetWrong_12 : decode cX7_sheetWrong 12 = .ok (.aload_n 0, 1) := by decide +kernel
theorem dX7_sheetWrong_13 : decode cX7_sheetWrong 13 = .ok (.getfield 38, 3) := by decide +kernel
theorem dX7_sheetWrong_16 : decode cX7_sheetWrong 16 = .ok (.iload_n 1, 1) := by decide +kernel
theorem dX7_sheetWrong_17 : decode cX7_sheetWrong 17 = .ok (.iaload, 1) := by decide +kernel
theorem dX7_sheetWrong_18 : decode cX7_sheetWrong 18 = .ok (.iconst (-1), 1) := by decide +kernel
theorem dX7_sheetWrong_19 : decode cX7_sheetWrong 19 = .ok (.if_icmp .ne 6, 3) := by decide +kernel
theorem dX7_sheetWrong_22 : decode cX7_sheetWrong 22 = .ok (.bipush (-11), 2) := by decide +kernel
theorem dX7_sheetWrong_24 : decode cX7_sheetWrong 24 = .ok (.ireturn, 1) := by decide +kernel
theorem dX7_sheetWrong_25 : decode cX7_sheetWrong 25 = .ok (.aload_n 0, 1) := by decide +kernel
theorem dX7_sheetWrong_26 : decode cX7_sheetWrong 26 = .ok (.getfield 41, 3) := by decide +kernel
theorem dX7_sheetWrong_29 : decode cX7_sheetWrong 29 = .ok (.iload_n 1, 1) := by decide +kernel
theorem dX7_sheetWrong_30 : decode cX7_sheetWrong 30 = .ok (.iaload, 1) := by decide +kernel
theorem dX7_sheetWrong_31 : decode cX7_sheetWrong 31 = .ok (.aload_n 0, 1) := by decide +kernel
theorem dX7_sheetWrong_32 : decode cX7_sheetWrong 32 = .ok (.getfield 90, 3) := by decide +kernel
theorem dX7_sheetWrong_35 : decode cX7_sheetWrong 35 = .ok (.if_icmp .le 8, 3) := by decide +kernel
theorem dX7_sheetWrong_38 : decode cX7_sheetWrong 38 = .ok (.bipush (-2), 2) := by decide +kernel
theorem dX7_sheetWrong_40 : decode cX7_sheetWrong 40 = .ok (.goto 4, 3) := by decide +kernel
theorem dX7_sheetWrong_43 : decode cX7_sheetWrong 43 = .ok (.iconst 0, 1) := by decide +kernel
theorem dX7_sheetWrong_44 : decode cX7_sheetWrong 44 = .ok (.ireturn, 1) := by decide +kernel
set_option maxRecDepth 20000 in
theorem ggX7_toldWrong_X7_sheetWrong : GoodIn wsX7_toldWrong wsX7_sheetWrong := goodIn_q _ [5, 11] [6, 7, 8, 9, 10, 4, 16, 17, 18, 19, 20, 21, 22, 23, 24, 25, 26, 27, 28, 29, 30, 31, 32, 33, 34, 35, 36, 37, 38, 39, 40, 41, 42, 43, 44, 45, 46, 47, 48, 49, 50, 51, 52, 53, 54, 55, 56, 57, 58] rfl (by decide +kernel) (by decide +kernel)
set_option maxRecDepth 20000 in
theorem gX7_toldWrong_X7_sheetWrong : GoodIn wsX7_toldWrong (wsV RX7 260 RX7 yX7_sheetWrong wsX7_sheetWrong) := goodIn_app (goodIn_of _ (by decide +kernel)) ggX7_toldWrong_X7_sheetWrong
set_option maxRecDepth 20000 in
theorem ggX7_toldWrong_X7_isOne : GoodIn wsX7_toldWrong wsX7_isOne := goodIn_q _ [15, 11] [8, 9, 10, 4, 16, 17, 18, 19, 20, 21, 22, 23, 24, 25, 26, 27, 28, 29, 30, 31, 32, 33, 34, 35, 36, 37, 38, 39, 40, 41, 42, 43, 44, 45, 46, 47, 48, 49, 50, 51, 52, 53, 54, 55, 56, 57, 58] rfl (by decide +kernel) (by decide +kernel)
set_option maxRecDepth 20000 in
theorem gX7_toldWrong_X7_isOne : GoodIn wsX7_toldWrong (wsV RX7 176 RX7 yX7_isOne wsX7_isOne) := goodIn_app (goodIn_of _ (by decide +kernel)) ggX7_toldWrong_X7_isOne
theorem dX7_toldWrong_0 : decode cX7_toldWrong 0 = .ok (.aload_n 0, 1) := by decide +kernel
theorem dX7_toldWrong_1 : decode cX7_toldWrong 1 = .ok (.iload_n 1, 1) := by decide +kernel
theorem dX7_toldWrong_2 : decode cX7_toldWrong 2 = .ok (.invokevirtual 260, 3) := by decide +kernel
theorem dX7_toldWrong_5 : decode cX7_toldWrong 5 = .ok (.istore_n 3, 1) := by decide +kernel
theorem dX7_toldWrong_6 : decode cX7_toldWrong 6 = .ok (.iload_n 3, 1) := by decide +kernel
theorem dX7_toldWrong_7 : decode cX7_toldWrong 7 = .ok (.ifCond .eq 7, 3) := by decide +kernel
theorem dX7_toldWrong_10 : decode cX7_toldWrong 10 = .ok (.iload_n 3, 1) := by decide +kernel
theorem dX7_toldWrong_11 : decode cX7_toldWrong 11 = .ok (.goto 17, 3) := by decide +kernel
theorem dX7_toldWrong_14 : decode cX7_toldWrong 14 = .ok (.aload_n 0, 1) := by decide +kernel
theorem dX7_toldWrong_15 : decode cX7_toldWrong 15 = .ok (.iload_n 2, 1) := by decide +kernel
theorem dX7_toldWrong_16 : decode cX7_toldWrong 16 = .ok (.invokevirtual 176, 3) := by decide +kernel
theorem dX7_toldWrong_19 : decode cX7_toldWrong 19 = .ok (.ifCond .eq 7, 3) := by decide +kernel
theorem dX7_toldWrong_22 : decode cX7_toldWrong 22 = .ok (.iconst 0, 1) := by decide +kernel
theorem dX7_toldWrong_23 : decode cX7_toldWrong 23 = .ok (.goto 5, 3) := by decide +kernel
theorem dX7_toldWrong_26 : decode cX7_toldWrong 26 = .ok (.bipush (-5), 2) := by decide +kernel
theorem dX7_toldWrong_28 : decode cX7_toldWrong 28 = .ok (.ireturn, 1) := by decide +kernel
set_option maxRecDepth 20000 in
theorem ggX7_unlike_X7_sups : GoodIn wsX7_unlike wsX7_sups := goodIn_q _ [8, 23, 28, 33, 37, 43, 48, 56, 59, 63, 67] [9, 3, 10, 11, 12, 13, 14, 15, 16, 17, 18, 19, 20, 21, 22, 7, 24, 25, 26, 27, 29, 30, 31, 32, 34, 35, 36, 38, 39, 40, 41, 42, 44, 45, 46, 47, 49, 50, 51, 52, 53, 54, 55, 57, 58, 60, 61, 62, 64, 65, 66, 68, 69, 70, 71, 72, 73, 74, 75, 76, 77, 78, 79, 80, 81, 82, 83, 84, 85, 86, 87, 88, 89, 90, 91, 92, 93, 94, 95, 96, 97, 98, 99, 100, 101, 102, 103, 104, 105, 106, 107, 108, 109, 110, 111] rfl (by decide +kernel) (by decide +kernel)
set_option maxRecDepth 20000 in
theorem gX7_unlike_X7_sups : GoodIn wsX7_unlike (wsV RX7 219 RX7 yX7_sups wsX7_sups) := goodIn_app (goodIn_of _ (by decide +kernel)) ggX7_unlike_X7_sups
theorem dX7_unlike_0 : decode cX7_unlike 0 = .ok (.aload_n 0, 1) := by decide +kernel
theorem dX7_unlike_1 : decode cX7_unlike 1 = .ok (.iconst (-1), 1) := by decide +kernel
theorem dX7_unlike_2 : decode cX7_unlike 2 = .ok (.invokevirtual 219, 3) := by decide +kernel
theorem dX7_unlike_5 : decode cX7_unlike 5 = .ok (.iconst 0, 1) := by decide +kernel
theorem dX7_unlike_6 : decode cX7_unlike 6 = .ok (.istore_n 2, 1) := by decide +kernel
theorem dX7_unlike_7 : decode cX7_unlike 7 = .ok (.iload_n 2, 1) := by decide +kernel
theorem dX7_unlike_8 : decode cX7_unlike 8 = .ok (.aload_n 0, 1) := by decide +kernel
theorem dX7_unlike_9 : decode cX7_unlike 9 = .ok (.getfield 41, 3) := by decide +kernel
theorem dX7_unlike_12 : decode cX7_unlike 12 = .ok (.iload_n 1, 1) := by decide +kernel
theorem dX7_unlike_13 : decode cX7_unlike 13 = .ok (.iaload, 1) := by decide +kernel
theorem dX7_unlike_14 : decode cX7_unlike 14 = .ok (.if_icmp .ge 37, 3) := by decide +kernel
theorem dX7_unlike_17 : decode cX7_unlike 17 = .ok (.iload_n 2, 1) := by decide +kernel
theorem dX7_unlike_18 : decode cX7_unlike 18 = .ok (.bipush 6, 2) := by decide +kernel
theorem dX7_unlike_20 : decode cX7_unlike 20 = .ok (.if_icmp .ge 31, 3) := by decide +kernel
theorem dX7_unlike_23 : decode cX7_unlike 23 = .ok (.aload_n 0, 1) := by decide +kernel
theorem dX7_unlike_24 : decode cX7_unlike 24 = .ok (.getfield 44, 3) := by decide +kernel
theorem dX7_unlike_27 : decode cX7_unlike 27 = .ok (.bipush 40, 2) := by decide +kernel
theorem dX7_unlike_29 : decode cX7_unlike 29 = .ok (.iload_n 1, 1) := by decide +kernel
theorem dX7_unlike_30 : decode cX7_unlike 30 = .ok (.imul, 1) := by decide +kernel
theorem dX7_unlike_31 : decode cX7_unlike 31 = .ok (.iload_n 2, 1) := by decide +kernel
theorem dX7_unlike_32 : decode cX7_unlike 32 = .ok (.iadd, 1) := by decide +kernel
theorem dX7_unlike_33 : decode cX7_unlike 33 = .ok (.iaload, 1) := by decide +kernel
theorem dX7_unlike_34 : decode cX7_unlike 34 = .ok (.aload_n 0, 1) := by decide +kernel
theorem dX7_unlike_35 : decode cX7_unlike 35 = .ok (.getfield 71, 3) := by decide +kernel
theorem dX7_unlike_38 : decode cX7_unlike 38 = .ok (.iload_n 2, 1) := by decide +kernel
theorem dX7_unlike_39 : decode cX7_unlike 39 = .ok (.iaload, 1) := by decide +kernel
theorem dX7_unlike_40 : decode cX7_unlike 40 = .ok (.if_icmp .eq 5, 3) := by decide +kernel
theorem dX7_unlike_43 : decode cX7_unlike 43 = .ok (.iload_n 2, 1) := by decide +kernel
theorem dX7_unlike_44 : decode cX7_unlike 44 = .ok (.ireturn, 1) := by decide +kernel
theorem dX7_unlike_45 : decode cX7_unlike 45 = .ok (.iinc 2 1, 3) := by decide +kernel
theorem dX7_unlike_48 : decode cX7_unlike 48 = .ok (.goto (-41), 3) := by decide +kernel
theorem dX7_unlike_51 : decode cX7_unlike 51 = .ok (.iconst (-1), 1) := by decide +kernel
theorem dX7_unlike_52 : decode cX7_unlike 52 = .ok (.ireturn, 1) := by decide +kernel
set_option maxRecDepth 20000 in
theorem ggX7_judge_X7_sheetWrong : GoodIn wsX7_judge wsX7_sheetWrong := goodIn_q _ [5, 11] [6, 7, 8, 9, 10, 4, 81, 82, 83, 84, 85, 86, 87, 88, 89, 90, 91, 92, 93, 94, 95, 96, 97, 98, 99, 100, 101, 102, 103, 104, 105, 106, 107, 108, 109, 110, 111, 112, 113, 114, 115, 116, 117, 118, 119, 120, 121, 122, 123] rfl (by decide +kernel) (by decide +kernel)
set_option maxRecDepth 20000 in
theorem gX7_judge_X7_sheetWrong : GoodIn wsX7_judge (wsV RX7 260 RX7 yX7_sheetWrong wsX7_sheetWrong) := goodIn_app (goodIn_of _ (by decide +kernel)) ggX7_judge_X7_sheetWrong
set_option maxRecDepth 20000 in
theorem ggX7_judge_X7_unlike : GoodIn wsX7_judge wsX7_unlike := goodIn_q _ [15, 21, 36, 40, 45, 49, 55, 60, 68, 71, 75, 79] [7, 16, 17, 18, 19, 20, 4, 22, 23, 24, 25, 26, 27, 28, 29, 30, 31, 32, 33, 34, 35, 8, 37, 38, 39, 41, 42, 43, 44, 46, 47, 48, 50, 51, 52, 53, 54, 56, 57, 58, 59, 61, 62, 63, 64, 65, 66, 67, 69, 70, 72, 73, 74, 76, 77, 78, 80, 81, 82, 83, 84, 85, 86, 87, 88, 89, 90, 91, 92, 93, 94, 95, 96, 97, 98, 99, 100, 101, 102, 103, 104, 105, 106, 107, 108, 109, 110, 111, 112, 113, 114, 115, 116, 117, 118, 119, 120, 121, 122, 123] rfl (by decide +kernel) (by decide +kernel)
set_option maxRecDepth 20000 in
theorem gX7_judge_X7_unlike : GoodIn wsX7_judge (wsV RX7 263 RX7 yX7_unlike wsX7_unlike) := goodIn_app (goodIn_of _ (by decide +kernel)) ggX7_judge_X7_unlike
theorem dX7_judge_0 : decode cX7_judge 0 = .ok (.aload_n 0, 1) := by decide +kernel
theorem dX7_judge_1 : decode cX7_judge 1 = .ok (.iload_n 1, 1) := by decide +kernel
theorem dX7_judge_2 : decode cX7_judge 2 = .ok (.invokevirtual 260, 3) := by decide +kernel
theorem dX7_judge_5 : decode cX7_judge 5 = .ok (.istore_n 2, 1) := by decide +kernel
theorem dX7_judge_6 : decode cX7_judge 6 = .ok (.iload_n 2, 1) := by decide +kernel
theorem dX7_judge_7 : decode cX7_judge 7 = .ok (.ifCond .ne 11, 3) := by decide +kernel
theorem dX7_judge_10 : decode cX7_judge 10 = .ok (.aload_n 0, 1) := by decide +kernel
theorem dX7_judge_11 : decode cX7_judge 11 = .ok (.iload_n 1, 1) := by decide +kernel
theorem dX7_judge_12 : decode cX7_judge 12 = .ok (.invokevirtual 263, 3) := by decide +kernel
theorem dX7_judge_15 : decode cX7_judge 15 = .ok (.goto 4, 3) := by decide +kernel
theorem dX7_judge_18 : decode cX7_judge 18 = .ok (.iload_n 2, 1) := by decide +kernel
theorem dX7_judge_19 : decode cX7_judge 19 = .ok (.ireturn, 1) := by decide +kernel
set_option maxRecDepth 20000 in
theorem ggX7_kinds_X7_toldWrong : GoodIn wsX7_kinds wsX7_toldWrong := goodIn_q _ [7, 11, 17, 21] [8, 9, 10, 6, 12, 13, 14, 15, 16, 18, 19, 20, 89, 90, 91, 92, 93, 94, 95, 96, 97, 98, 99, 100, 101, 102, 103, 104, 105, 106, 107, 108, 109, 110, 111, 112, 113, 114, 115, 116, 117, 118, 119, 120, 121, 122, 123, 124, 125, 126, 127, 128, 129, 130, 131] rfl (by decide +kernel) (by decide +kernel)
set_option maxRecDepth 20000 in
theorem gX7_kinds_X7_toldWrong : GoodIn wsX7_kinds (wsV RX7 266 RX7 yX7_toldWrong wsX7_toldWrong) := goodIn_app (goodIn_of _ (by decide +kernel)) ggX7_kinds_X7_toldWrong
set_option maxRecDepth 20000 in
theorem ggX7_kinds_X7_in : GoodIn wsX7_kinds wsX7_in := goodIn_q _ [17] [] rfl (by decide +kernel) (by decide +kernel)
set_option maxRecDepth 20000 in
theorem gX7_kinds_X7_in : GoodIn wsX7_kinds (va_wsS RX7 93 yX7_in wsX7_in) := goodIn_app (goodIn_of _ (by decide +kernel)) ggX7_kinds_X7_in
set_option maxRecDepth 20000 in
theorem ggX7_kinds_X7_unlike : GoodIn wsX7_kinds wsX7_unlike := goodIn_q _ [25, 31, 46, 50, 55, 59, 63, 68, 76, 79, 83, 87] [13, 26, 27, 28, 29, 30, 6, 32, 33, 34, 35, 36, 37, 38, 39, 40, 41, 42, 43, 44, 45, 14, 47, 48, 49, 51, 52, 53, 54, 56, 57, 58, 1, 2, 60, 61, 62, 64, 65, 66, 67, 69, 70, 71, 72, 73, 74, 75, 77, 78, 80, 81, 82, 84, 85, 86, 88, 89, 90, 91, 92, 93, 94, 95, 96, 97, 98, 99, 100, 101, 102, 103, 104, 105, 106, 107, 108, 109, 110, 111, 112, 113, 114, 115, 116, 117, 118, 119, 120, 121, 122, 123, 124, 125, 126, 127, 128, 129, 130, 131] rfl (by decide +kernel) (by decide +kernel)
set_option maxRecDepth 20000 in
theorem gX7_kinds_X7_unlike : GoodIn wsX7_kinds (wsV RX7 263 RX7 yX7_unlike wsX7_unlike) := goodIn_app (goodIn_of _ (by decide +kernel)) ggX7_kinds_X7_unlike
theorem dX7_kinds_0 : decode cX7_kinds 0 = .ok (.aload_n 0, 1) := by decide +kernel
theorem dX7_kinds_1 : decode cX7_kinds 1 = .ok (.iload_n 1, 1) := by decide +kernel
theorem dX7_kinds_2 : decode cX7_kinds 2 = .ok (.iload_n 2, 1) := by decide +kernel
theorem dX7_kinds_3 : decode cX7_kinds 3 = .ok (.invokevirtual 266, 3) := by decide +kernel
theorem dX7_kinds_6 : decode cX7_kinds 6 = .ok (.istore 4, 2) := by decide +kernel
theorem dX7_kinds_8 : decode cX7_kinds 8 = .ok (.iload 4, 2) := by decide +kernel
theorem dX7_kinds_10 : decode cX7_kinds 10 = .ok (.ifCond .eq 6, 3) := by decide +kernel
theorem dX7_kinds_13 : decode cX7_kinds 13 = .ok (.iload 4, 2) := by decide +kernel
theorem dX7_kinds_15 : decode cX7_kinds 15 = .ok (.ireturn, 1) := by decide +kernel
theorem dX7_kinds_16 : decode cX7_kinds 16 = .ok (.iload_n 3, 1) := by decide +kernel
theorem dX7_kinds_17 : decode cX7_kinds 17 = .ok (.iconst 0, 1) := by decide +kernel
theorem dX7_kinds_18 : decode cX7_kinds 18 = .ok (.iconst 1, 1) := by decide +kernel
theorem dX7_kinds_19 : decode cX7_kinds 19 = .ok (.invokestatic 93, 3) := by decide +kernel
theorem dX7_kinds_22 : decode cX7_kinds 22 = .ok (.ifCond .ne 6, 3) := by decide +kernel
theorem dX7_kinds_25 : decode cX7_kinds 25 = .ok (.bipush (-7), 2) := by decide +kernel
theorem dX7_kinds_27 : decode cX7_kinds 27 = .ok (.ireturn, 1) := by decide +kernel
theorem dX7_kinds_28 : decode cX7_kinds 28 = .ok (.aload_n 0, 1) := by decide +kernel
theorem dX7_kinds_29 : decode cX7_kinds 29 = .ok (.getfield 7, 3) := by decide +kernel
theorem dX7_kinds_32 : decode cX7_kinds 32 = .ok (.iload_n 2, 1) := by decide +kernel
theorem dX7_kinds_33 : decode cX7_kinds 33 = .ok (.iaload, 1) := by decide +kernel
theorem dX7_kinds_34 : decode cX7_kinds 34 = .ok (.istore 5, 2) := by decide +kernel
theorem dX7_kinds_36 : decode cX7_kinds 36 = .ok (.aload_n 0, 1) := by decide +kernel
theorem dX7_kinds_37 : decode cX7_kinds 37 = .ok (.getfield 13, 3) := by decide +kernel
theorem dX7_kinds_40 : decode cX7_kinds 40 = .ok (.iload_n 2, 1) := by decide +kernel
theorem dX7_kinds_41 : decode cX7_kinds 41 = .ok (.iaload, 1) := by decide +kernel
theorem dX7_kinds_42 : decode cX7_kinds 42 = .ok (.istore 6, 2) := by decide +kernel
theorem dX7_kinds_44 : decode cX7_kinds 44 = .ok (.iconst 0, 1) := by decide +kernel
theorem dX7_kinds_45 : decode cX7_kinds 45 = .ok (.istore 7, 2) := by decide +kernel
theorem dX7_kinds_47 : decode cX7_kinds 47 = .ok (.iconst 0, 1) := by decide +kernel
theorem dX7_kinds_48 : decode cX7_kinds 48 = .ok (.istore 8, 2) := by decide +kernel
theorem dX7_kinds_50 : decode cX7_kinds 50 = .ok (.iload 8, 2) := by decide +kernel
theorem dX7_kinds_52 : decode cX7_kinds 52 = .ok (.iload_n 3, 1) := by decide +kernel
theorem dX7_kinds_53 : decode cX7_kinds 53 = .ok (.ifCond .ne 8, 3) := by decide +kernel
theorem dX7_kinds_56 : decode cX7_kinds 56 = .ok (.bipush 6, 2) := by decide +kernel
theorem dX7_kinds_58 : decode cX7_kinds 58 = .ok (.goto 5, 3) := by decide +kernel
theorem dX7_kinds_61 : decode cX7_kinds 61 = .ok (.bipush 10, 2) := by decide +kernel
theorem dX7_kinds_63 : decode cX7_kinds 63 = .ok (.if_icmp .ge 66, 3) := by decide +kernel
theorem dX7_kinds_66 : decode cX7_kinds 66 = .ok (.aload_n 0, 1) := by decide +kernel
theorem dX7_kinds_67 : decode cX7_kinds 67 = .ok (.getfield 7, 3) := by decide +kernel
theorem dX7_kinds_70 : decode cX7_kinds 70 = .ok (.iload_n 2, 1) := by decide +kernel
theorem dX7_kinds_71 : decode cX7_kinds 71 = .ok (.iload_n 3, 1) := by decide +kernel
theorem dX7_kinds_72 : decode cX7_kinds 72 = .ok (.ifCond .ne 8, 3) := by decide +kernel
theorem dX7_kinds_75 : decode cX7_kinds 75 = .ok (.iload 8, 2) := by decide +kernel
theorem dX7_kinds_77 : decode cX7_kinds 77 = .ok (.goto 5, 3) := by decide +kernel
theorem dX7_kinds_80 : decode cX7_kinds 80 = .ok (.iload 5, 2) := by decide +kernel
theorem dX7_kinds_82 : decode cX7_kinds 82 = .ok (.iastore, 1) := by decide +kernel
theorem dX7_kinds_83 : decode cX7_kinds 83 = .ok (.aload_n 0, 1) := by decide +kernel
theorem dX7_kinds_84 : decode cX7_kinds 84 = .ok (.getfield 13, 3) := by decide +kernel
theorem dX7_kinds_87 : decode cX7_kinds 87 = .ok (.iload_n 2, 1) := by decide +kernel
theorem dX7_kinds_88 : decode cX7_kinds 88 = .ok (.iload_n 3, 1) := by decide +kernel
theorem dX7_kinds_89 : decode cX7_kinds 89 = .ok (.iconst 1, 1) := by decide +kernel
theorem dX7_kinds_90 : decode cX7_kinds 90 = .ok (.if_icmp .ne 8, 3) := by decide +kernel
theorem dX7_kinds_93 : decode cX7_kinds 93 = .ok (.iload 8, 2) := by decide +kernel
theorem dX7_kinds_95 : decode cX7_kinds 95 = .ok (.goto 5, 3) := by decide +kernel
theorem dX7_kinds_98 : decode cX7_kinds 98 = .ok (.iload 6, 2) := by decide +kernel
theorem dX7_kinds_100 : decode cX7_kinds 100 = .ok (.iastore, 1) := by decide +kernel
theorem dX7_kinds_101 : decode cX7_kinds 101 = .ok (.iload 7, 2) := by decide +kernel
theorem dX7_kinds_103 : decode cX7_kinds 103 = .ok (.aload_n 0, 1) := by decide +kernel
theorem dX7_kinds_104 : decode cX7_kinds 104 = .ok (.iload_n 1, 1) := by decide +kernel
theorem dX7_kinds_105 : decode cX7_kinds 105 = .ok (.invokevirtual 263, 3) := by decide +kernel
theorem dX7_kinds_108 : decode cX7_kinds 108 = .ok (.iconst (-1), 1) := by decide +kernel
theorem dX7_kinds_109 : decode cX7_kinds 109 = .ok (.if_icmp .ne 10, 3) := by decide +kernel
theorem dX7_kinds_112 : decode cX7_kinds 112 = .ok (.iconst 1, 1) := by decide +kernel
theorem dX7_kinds_113 : decode cX7_kinds 113 = .ok (.iload 8, 2) := by decide +kernel
theorem dX7_kinds_115 : decode cX7_kinds 115 = .ok (.ishl, 1) := by decide +kernel
theorem dX7_kinds_116 : decode cX7_kinds 116 = .ok (.goto 4, 3) := by decide +kernel
theorem dX7_kinds_119 : decode cX7_kinds 119 = .ok (.iconst 0, 1) := by decide +kernel
theorem dX7_kinds_120 : decode cX7_kinds 120 = .ok (.ior, 1) := by decide +kernel
theorem dX7_kinds_121 : decode cX7_kinds 121 = .ok (.istore 7, 2) := by decide +kernel
theorem dX7_kinds_123 : decode cX7_kinds 123 = .ok (.iinc 8 1, 3) := by decide +kernel
theorem dX7_kinds_126 : decode cX7_kinds 126 = .ok (.goto (-76), 3) := by decide +kernel
theorem dX7_kinds_129 : decode cX7_kinds 129 = .ok (.aload_n 0, 1) := by decide +kernel
theorem dX7_kinds_130 : decode cX7_kinds 130 = .ok (.getfield 7, 3) := by decide +kernel
theorem dX7_kinds_133 : decode cX7_kinds 133 = .ok (.iload_n 2, 1) := by decide +kernel
theorem dX7_kinds_134 : decode cX7_kinds 134 = .ok (.iload 5, 2) := by decide +kernel
theorem dX7_kinds_136 : decode cX7_kinds 136 = .ok (.iastore, 1) := by decide +kernel
theorem dX7_kinds_137 : decode cX7_kinds 137 = .ok (.aload_n 0, 1) := by decide +kernel
theorem dX7_kinds_138 : decode cX7_kinds 138 = .ok (.getfield 13, 3) := by decide +kernel
theorem dX7_kinds_141 : decode cX7_kinds 141 = .ok (.iload_n 2, 1) := by decide +kernel
theorem dX7_kinds_142 : decode cX7_kinds 142 = .ok (.iload 6, 2) := by decide +kernel
theorem dX7_kinds_144 : decode cX7_kinds 144 = .ok (.iastore, 1) := by decide +kernel
theorem dX7_kinds_145 : decode cX7_kinds 145 = .ok (.iload 7, 2) := by decide +kernel
theorem dX7_kinds_147 : decode cX7_kinds 147 = .ok (.ireturn, 1) := by decide +kernel
set_option maxRecDepth 20000 in
theorem ggX7_ranks_X7_toldWrong : GoodIn wsX7_ranks wsX7_toldWrong := goodIn_q _ [6, 10, 16, 20] [7, 8, 9, 5, 11, 12, 13, 14, 15, 17, 18, 19, 89, 90, 91, 92, 93, 94, 95, 96, 97, 98, 99, 100, 101, 102, 103, 104, 105, 106, 107, 108, 109, 110, 111, 112, 113, 114, 115, 116, 117, 118, 119, 120, 121, 122, 123, 124, 125, 126, 127, 128, 129, 130, 131] rfl (by decide +kernel) (by decide +kernel)
set_option maxRecDepth 20000 in
theorem gX7_ranks_X7_toldWrong : GoodIn wsX7_ranks (wsV RX7 266 RX7 yX7_toldWrong wsX7_toldWrong) := goodIn_app (goodIn_of _ (by decide +kernel)) ggX7_ranks_X7_toldWrong
set_option maxRecDepth 20000 in
theorem ggX7_ranks_X7_in : GoodIn wsX7_ranks wsX7_in := goodIn_q _ [16] [] rfl (by decide +kernel) (by decide +kernel)
set_option maxRecDepth 20000 in
theorem gX7_ranks_X7_in : GoodIn wsX7_ranks (va_wsS RX7 93 yX7_in wsX7_in) := goodIn_app (goodIn_of _ (by decide +kernel)) ggX7_ranks_X7_in
set_option maxRecDepth 20000 in
theorem ggX7_ranks_X7_unlike : GoodIn wsX7_ranks wsX7_unlike := goodIn_q _ [24, 30, 45, 49, 53, 57, 63, 68, 76, 79, 83, 87] [12, 25, 26, 27, 28, 29, 5, 31, 32, 33, 34, 35, 36, 37, 38, 39, 40, 41, 42, 43, 44, 13, 46, 47, 48, 1, 50, 51, 52, 54, 55, 56, 58, 59, 60, 61, 62, 64, 65, 66, 67, 69, 70, 71, 72, 73, 74, 75, 77, 78, 80, 81, 82, 84, 85, 86, 88, 89, 90, 91, 92, 93, 94, 95, 96, 97, 98, 99, 100, 101, 102, 103, 104, 105, 106, 107, 108, 109, 110, 111, 112, 113, 114, 115, 116, 117, 118, 119, 120, 121, 122, 123, 124, 125, 126, 127, 128, 129, 130, 131] rfl (by decide +kernel) (by decide +kernel)
set_option maxRecDepth 20000 in
theorem gX7_ranks_X7_unlike : GoodIn wsX7_ranks (wsV RX7 263 RX7 yX7_unlike wsX7_unlike) := goodIn_app (goodIn_of _ (by decide +kernel)) ggX7_ranks_X7_unlike
theorem dX7_ranks_0 : decode cX7_ranks 0 = .ok (.aload_n 0, 1) := by decide +kernel
theorem dX7_ranks_1 : decode cX7_ranks 1 = .ok (.iload_n 1, 1) := by decide +kernel
theorem dX7_ranks_2 : decode cX7_ranks 2 = .ok (.iload_n 2, 1) := by decide +kernel
theorem dX7_ranks_3 : decode cX7_ranks 3 = .ok (.invokevirtual 266, 3) := by decide +kernel
theorem dX7_ranks_6 : decode cX7_ranks 6 = .ok (.istore 4, 2) := by decide +kernel
theorem dX7_ranks_8 : decode cX7_ranks 8 = .ok (.iload 4, 2) := by decide +kernel
theorem dX7_ranks_10 : decode cX7_ranks 10 = .ok (.ifCond .eq 6, 3) := by decide +kernel
theorem dX7_ranks_13 : decode cX7_ranks 13 = .ok (.iload 4, 2) := by decide +kernel
theorem dX7_ranks_15 : decode cX7_ranks 15 = .ok (.ireturn, 1) := by decide +kernel
theorem dX7_ranks_16 : decode cX7_ranks 16 = .ok (.iload_n 3, 1) := by decide +kernel
theorem dX7_ranks_17 : decode cX7_ranks 17 = .ok (.iconst 0, 1) := by decide +kernel
theorem dX7_ranks_18 : decode cX7_ranks 18 = .ok (.iconst 1, 1) := by decide +kernel
theorem dX7_ranks_19 : decode cX7_ranks 19 = .ok (.invokestatic 93, 3) := by decide +kernel
theorem dX7_ranks_22 : decode cX7_ranks 22 = .ok (.ifCond .ne 6, 3) := by decide +kernel
theorem dX7_ranks_25 : decode cX7_ranks 25 = .ok (.bipush (-7), 2) := by decide +kernel
theorem dX7_ranks_27 : decode cX7_ranks 27 = .ok (.ireturn, 1) := by decide +kernel
theorem dX7_ranks_28 : decode cX7_ranks 28 = .ok (.aload_n 0, 1) := by decide +kernel
theorem dX7_ranks_29 : decode cX7_ranks 29 = .ok (.getfield 16, 3) := by decide +kernel
theorem dX7_ranks_32 : decode cX7_ranks 32 = .ok (.iconst 2, 1) := by decide +kernel
theorem dX7_ranks_33 : decode cX7_ranks 33 = .ok (.iload_n 2, 1) := by decide +kernel
theorem dX7_ranks_34 : decode cX7_ranks 34 = .ok (.imul, 1) := by decide +kernel
theorem dX7_ranks_35 : decode cX7_ranks 35 = .ok (.iaload, 1) := by decide +kernel
theorem dX7_ranks_36 : decode cX7_ranks 36 = .ok (.istore 5, 2) := by decide +kernel
theorem dX7_ranks_38 : decode cX7_ranks 38 = .ok (.iconst 0, 1) := by decide +kernel
theorem dX7_ranks_39 : decode cX7_ranks 39 = .ok (.istore 6, 2) := by decide +kernel
theorem dX7_ranks_41 : decode cX7_ranks 41 = .ok (.iconst (-1), 1) := by decide +kernel
theorem dX7_ranks_42 : decode cX7_ranks 42 = .ok (.istore 7, 2) := by decide +kernel
theorem dX7_ranks_44 : decode cX7_ranks 44 = .ok (.iconst 0, 1) := by decide +kernel
theorem dX7_ranks_45 : decode cX7_ranks 45 = .ok (.istore 8, 2) := by decide +kernel
theorem dX7_ranks_47 : decode cX7_ranks 47 = .ok (.iload 8, 2) := by decide +kernel
theorem dX7_ranks_49 : decode cX7_ranks 49 = .ok (.bipush 99, 2) := by decide +kernel
theorem dX7_ranks_51 : decode cX7_ranks 51 = .ok (.if_icmp .gt 70, 3) := by decide +kernel
theorem dX7_ranks_54 : decode cX7_ranks 54 = .ok (.aload_n 0, 1) := by decide +kernel
theorem dX7_ranks_55 : decode cX7_ranks 55 = .ok (.getfield 16, 3) := by decide +kernel
theorem dX7_ranks_58 : decode cX7_ranks 58 = .ok (.iconst 2, 1) := by decide +kernel
theorem dX7_ranks_59 : decode cX7_ranks 59 = .ok (.iload_n 2, 1) := by decide +kernel
theorem dX7_ranks_60 : decode cX7_ranks 60 = .ok (.imul, 1) := by decide +kernel
theorem dX7_ranks_61 : decode cX7_ranks 61 = .ok (.iload 8, 2) := by decide +kernel
theorem dX7_ranks_63 : decode cX7_ranks 63 = .ok (.iastore, 1) := by decide +kernel
theorem dX7_ranks_64 : decode cX7_ranks 64 = .ok (.aload_n 0, 1) := by decide +kernel
theorem dX7_ranks_65 : decode cX7_ranks 65 = .ok (.iload_n 1, 1) := by decide +kernel
theorem dX7_ranks_66 : decode cX7_ranks 66 = .ok (.invokevirtual 263, 3) := by decide +kernel
theorem dX7_ranks_69 : decode cX7_ranks 69 = .ok (.iconst (-1), 1) := by decide +kernel
theorem dX7_ranks_70 : decode cX7_ranks 70 = .ok (.if_icmp .ne 7, 3) := by decide +kernel
theorem dX7_ranks_73 : decode cX7_ranks 73 = .ok (.iconst 1, 1) := by decide +kernel
theorem dX7_ranks_74 : decode cX7_ranks 74 = .ok (.goto 4, 3) := by decide +kernel
theorem dX7_ranks_77 : decode cX7_ranks 77 = .ok (.iconst 0, 1) := by decide +kernel
theorem dX7_ranks_78 : decode cX7_ranks 78 = .ok (.istore 9, 2) := by decide +kernel
theorem dX7_ranks_80 : decode cX7_ranks 80 = .ok (.iload 6, 2) := by decide +kernel
theorem dX7_ranks_82 : decode cX7_ranks 82 = .ok (.iload 9, 2) := by decide +kernel
theorem dX7_ranks_84 : decode cX7_ranks 84 = .ok (.ifCond .eq 7, 3) := by decide +kernel
theorem dX7_ranks_87 : decode cX7_ranks 87 = .ok (.iconst 1, 1) := by decide +kernel
theorem dX7_ranks_88 : decode cX7_ranks 88 = .ok (.goto 4, 3) := by decide +kernel
theorem dX7_ranks_91 : decode cX7_ranks 91 = .ok (.iconst 0, 1) := by decide +kernel
theorem dX7_ranks_92 : decode cX7_ranks 92 = .ok (.iadd, 1) := by decide +kernel
theorem dX7_ranks_93 : decode cX7_ranks 93 = .ok (.istore 6, 2) := by decide +kernel
theorem dX7_ranks_95 : decode cX7_ranks 95 = .ok (.iload 9, 2) := by decide +kernel
theorem dX7_ranks_97 : decode cX7_ranks 97 = .ok (.ifCond .eq 14, 3) := by decide +kernel
theorem dX7_ranks_100 : decode cX7_ranks 100 = .ok (.iload 7, 2) := by decide +kernel
theorem dX7_ranks_102 : decode cX7_ranks 102 = .ok (.iconst (-1), 1) := by decide +kernel
theorem dX7_ranks_103 : decode cX7_ranks 103 = .ok (.if_icmp .ne 8, 3) := by decide +kernel
theorem dX7_ranks_106 : decode cX7_ranks 106 = .ok (.iload 8, 2) := by decide +kernel
theorem dX7_ranks_108 : decode cX7_ranks 108 = .ok (.goto 5, 3) := by decide +kernel
theorem dX7_ranks_111 : decode cX7_ranks 111 = .ok (.iload 7, 2) := by decide +kernel
theorem dX7_ranks_113 : decode cX7_ranks 113 = .ok (.istore 7, 2) := by decide +kernel
theorem dX7_ranks_115 : decode cX7_ranks 115 = .ok (.iinc 8 1, 3) := by decide +kernel
theorem dX7_ranks_118 : decode cX7_ranks 118 = .ok (.goto (-71), 3) := by decide +kernel
theorem dX7_ranks_121 : decode cX7_ranks 121 = .ok (.aload_n 0, 1) := by decide +kernel
theorem dX7_ranks_122 : decode cX7_ranks 122 = .ok (.getfield 16, 3) := by decide +kernel
theorem dX7_ranks_125 : decode cX7_ranks 125 = .ok (.iconst 2, 1) := by decide +kernel
theorem dX7_ranks_126 : decode cX7_ranks 126 = .ok (.iload_n 2, 1) := by decide +kernel
theorem dX7_ranks_127 : decode cX7_ranks 127 = .ok (.imul, 1) := by decide +kernel
theorem dX7_ranks_128 : decode cX7_ranks 128 = .ok (.iload 5, 2) := by decide +kernel
theorem dX7_ranks_130 : decode cX7_ranks 130 = .ok (.iastore, 1) := by decide +kernel
theorem dX7_ranks_131 : decode cX7_ranks 131 = .ok (.iload_n 3, 1) := by decide +kernel
theorem dX7_ranks_132 : decode cX7_ranks 132 = .ok (.ifCond .ne 8, 3) := by decide +kernel
theorem dX7_ranks_135 : decode cX7_ranks 135 = .ok (.iload 6, 2) := by decide +kernel
theorem dX7_ranks_137 : decode cX7_ranks 137 = .ok (.goto 5, 3) := by decide +kernel
theorem dX7_ranks_140 : decode cX7_ranks 140 = .ok (.iload 7, 2) := by decide +kernel
theorem dX7_ranks_142 : decode cX7_ranks 142 = .ok (.ireturn, 1) := by decide +kernel
set_option maxRecDepth 20000 in
theorem ggX7_heats_X7_sheetWrong : GoodIn wsX7_heats wsX7_sheetWrong := goodIn_q _ [6, 12] [7, 8, 9, 10, 11, 5, 81, 82, 83, 84, 85, 86, 87, 88, 89, 90, 91, 92, 93, 94, 95, 96, 97, 98, 99, 100, 101, 102, 103, 104, 105, 106, 107, 108, 109, 110, 111, 112, 113, 114, 115, 116, 117, 118, 119, 120, 121, 122, 123] rfl (by decide +kernel) (by decide +kernel)
set_option maxRecDepth 20000 in
theorem gX7_heats_X7_sheetWrong : GoodIn wsX7_heats (wsV RX7 260 RX7 yX7_sheetWrong wsX7_sheetWrong) := goodIn_app (goodIn_of _ (by decide +kernel)) ggX7_heats_X7_sheetWrong
set_option maxRecDepth 20000 in
theorem ggX7_heats_X7_in : GoodIn wsX7_heats wsX7_in := goodIn_q _ [12] [] rfl (by decide +kernel) (by decide +kernel)
set_option maxRecDepth 20000 in
theorem gX7_heats_X7_in : GoodIn wsX7_heats (va_wsS RX7 93 yX7_in wsX7_in) := goodIn_app (goodIn_of _ (by decide +kernel)) ggX7_heats_X7_in
set_option maxRecDepth 20000 in
theorem ggX7_heats_X7_unlike : GoodIn wsX7_heats wsX7_unlike := goodIn_q _ [16, 22, 36, 40, 45, 49, 55, 60, 68, 71, 75, 79] [8, 17, 18, 19, 20, 21, 5, 23, 24, 25, 26, 27, 28, 29, 30, 1, 31, 32, 33, 34, 35, 9, 37, 38, 39, 41, 42, 43, 44, 46, 47, 48, 50, 51, 52, 53, 54, 56, 57, 58, 59, 61, 62, 63, 64, 65, 66, 67, 69, 70, 72, 73, 74, 76, 77, 78, 80, 81, 82, 83, 84, 85, 86, 87, 88, 89, 90, 91, 92, 93, 94, 95, 96, 97, 98, 99, 100, 101, 102, 103, 104, 105, 106, 107, 108, 109, 110, 111, 112, 113, 114, 115, 116, 117, 118, 119, 120, 121, 122, 123] rfl (by decide +kernel) (by decide +kernel)
set_option maxRecDepth 20000 in
theorem gX7_heats_X7_unlike : GoodIn wsX7_heats (wsV RX7 263 RX7 yX7_unlike wsX7_unlike) := goodIn_app (goodIn_of _ (by decide +kernel)) ggX7_heats_X7_unlike
theorem dX7_heats_0 : decode cX7_heats 0 = .ok (.aload_n 0, 1) := by decide +kernel
theorem dX7_heats_1 : decode cX7_heats 1 = .ok (.iload_n 1, 1) := by decide +kernel
theorem dX7_heats_2 : decode cX7_heats 2 = .ok (.invokevirtual 260, 3) := by decide +kernel
theorem dX7_heats_5 : decode cX7_heats 5 = .ok (.istore_n 3, 1) := by decide +kernel
theorem dX7_heats_6 : decode cX7_heats 6 = .ok (.iload_n 3, 1) := by decide +kernel
theorem dX7_heats_7 : decode cX7_heats 7 = .ok (.ifCond .eq 5, 3) := by decide +kernel
theorem dX7_heats_10 : decode cX7_heats 10 = .ok (.iload_n 3, 1) := by decide +kernel
theorem dX7_heats_11 : decode cX7_heats 11 = .ok (.ireturn, 1) := by decide +kernel
theorem dX7_heats_12 : decode cX7_heats 12 = .ok (.iload_n 2, 1) := by decide +kernel
theorem dX7_heats_13 : decode cX7_heats 13 = .ok (.iconst 0, 1) := by decide +kernel
theorem dX7_heats_14 : decode cX7_heats 14 = .ok (.iconst 1, 1) := by decide +kernel
theorem dX7_heats_15 : decode cX7_heats 15 = .ok (.invokestatic 93, 3) := by decide +kernel
theorem dX7_heats_18 : decode cX7_heats 18 = .ok (.ifCond .ne 6, 3) := by decide +kernel
theorem dX7_heats_21 : decode cX7_heats 21 = .ok (.bipush (-7), 2) := by decide +kernel
theorem dX7_heats_23 : decode cX7_heats 23 = .ok (.ireturn, 1) := by decide +kernel
theorem dX7_heats_24 : decode cX7_heats 24 = .ok (.aload_n 0, 1) := by decide +kernel
theorem dX7_heats_25 : decode cX7_heats 25 = .ok (.getfield 19, 3) := by decide +kernel
theorem dX7_heats_28 : decode cX7_heats 28 = .ok (.istore 4, 2) := by decide +kernel
theorem dX7_heats_30 : decode cX7_heats 30 = .ok (.iconst 0, 1) := by decide +kernel
theorem dX7_heats_31 : decode cX7_heats 31 = .ok (.istore 5, 2) := by decide +kernel
theorem dX7_heats_33 : decode cX7_heats 33 = .ok (.iconst (-1), 1) := by decide +kernel
theorem dX7_heats_34 : decode cX7_heats 34 = .ok (.istore 6, 2) := by decide +kernel
theorem dX7_heats_36 : decode cX7_heats 36 = .ok (.iconst 0, 1) := by decide +kernel
theorem dX7_heats_37 : decode cX7_heats 37 = .ok (.istore 7, 2) := by decide +kernel
theorem dX7_heats_39 : decode cX7_heats 39 = .ok (.iload 7, 2) := by decide +kernel
theorem dX7_heats_41 : decode cX7_heats 41 = .ok (.bipush 99, 2) := by decide +kernel
theorem dX7_heats_43 : decode cX7_heats 43 = .ok (.if_icmp .gt 66, 3) := by decide +kernel
theorem dX7_heats_46 : decode cX7_heats 46 = .ok (.aload_n 0, 1) := by decide +kernel
theorem dX7_heats_47 : decode cX7_heats 47 = .ok (.iload 7, 2) := by decide +kernel
theorem dX7_heats_49 : decode cX7_heats 49 = .ok (.putfield 19, 3) := by decide +kernel
theorem dX7_heats_52 : decode cX7_heats 52 = .ok (.aload_n 0, 1) := by decide +kernel
theorem dX7_heats_53 : decode cX7_heats 53 = .ok (.iload_n 1, 1) := by decide +kernel
theorem dX7_heats_54 : decode cX7_heats 54 = .ok (.invokevirtual 263, 3) := by decide +kernel
theorem dX7_heats_57 : decode cX7_heats 57 = .ok (.iconst (-1), 1) := by decide +kernel
theorem dX7_heats_58 : decode cX7_heats 58 = .ok (.if_icmp .ne 7, 3) := by decide +kernel
theorem dX7_heats_61 : decode cX7_heats 61 = .ok (.iconst 1, 1) := by decide +kernel
theorem dX7_heats_62 : decode cX7_heats 62 = .ok (.goto 4, 3) := by decide +kernel
theorem dX7_heats_65 : decode cX7_heats 65 = .ok (.iconst 0, 1) := by decide +kernel
theorem dX7_heats_66 : decode cX7_heats 66 = .ok (.istore 8, 2) := by decide +kernel
theorem dX7_heats_68 : decode cX7_heats 68 = .ok (.iload 5, 2) := by decide +kernel
theorem dX7_heats_70 : decode cX7_heats 70 = .ok (.iload 8, 2) := by decide +kernel
theorem dX7_heats_72 : decode cX7_heats 72 = .ok (.ifCond .eq 7, 3) := by decide +kernel
theorem dX7_heats_75 : decode cX7_heats 75 = .ok (.iconst 1, 1) := by decide +kernel
theorem dX7_heats_76 : decode cX7_heats 76 = .ok (.goto 4, 3) := by decide +kernel
theorem dX7_heats_79 : decode cX7_heats 79 = .ok (.iconst 0, 1) := by decide +kernel
theorem dX7_heats_80 : decode cX7_heats 80 = .ok (.iadd, 1) := by decide +kernel
theorem dX7_heats_81 : decode cX7_heats 81 = .ok (.istore 5, 2) := by decide +kernel
theorem dX7_heats_83 : decode cX7_heats 83 = .ok (.iload 8, 2) := by decide +kernel
theorem dX7_heats_85 : decode cX7_heats 85 = .ok (.ifCond .eq 14, 3) := by decide +kernel
theorem dX7_heats_88 : decode cX7_heats 88 = .ok (.iload 6, 2) := by decide +kernel
theorem dX7_heats_90 : decode cX7_heats 90 = .ok (.iconst (-1), 1) := by decide +kernel
theorem dX7_heats_91 : decode cX7_heats 91 = .ok (.if_icmp .ne 8, 3) := by decide +kernel
theorem dX7_heats_94 : decode cX7_heats 94 = .ok (.iload 7, 2) := by decide +kernel
theorem dX7_heats_96 : decode cX7_heats 96 = .ok (.goto 5, 3) := by decide +kernel
theorem dX7_heats_99 : decode cX7_heats 99 = .ok (.iload 6, 2) := by decide +kernel
theorem dX7_heats_101 : decode cX7_heats 101 = .ok (.istore 6, 2) := by decide +kernel
theorem dX7_heats_103 : decode cX7_heats 103 = .ok (.iinc 7 1, 3) := by decide +kernel
theorem dX7_heats_106 : decode cX7_heats 106 = .ok (.goto (-67), 3) := by decide +kernel
theorem dX7_heats_109 : decode cX7_heats 109 = .ok (.aload_n 0, 1) := by decide +kernel
theorem dX7_heats_110 : decode cX7_heats 110 = .ok (.iload 4, 2) := by decide +kernel
theorem dX7_heats_112 : decode cX7_heats 112 = .ok (.putfield 19, 3) := by decide +kernel
theorem dX7_heats_115 : decode cX7_heats 115 = .ok (.iload_n 2, 1) := by decide +kernel
theorem dX7_heats_116 : decode cX7_heats 116 = .ok (.ifCond .ne 8, 3) := by decide +kernel
theorem dX7_heats_119 : decode cX7_heats 119 = .ok (.iload 5, 2) := by decide +kernel
theorem dX7_heats_121 : decode cX7_heats 121 = .ok (.goto 5, 3) := by decide +kernel
theorem dX7_heats_124 : decode cX7_heats 124 = .ok (.iload 6, 2) := by decide +kernel
theorem dX7_heats_126 : decode cX7_heats 126 = .ok (.ireturn, 1) := by decide +kernel
set_option maxRecDepth 20000 in
theorem ggX7_laws_X7_sheetWrong : GoodIn wsX7_laws wsX7_sheetWrong := goodIn_q _ [7, 13] [8, 9, 10, 11, 12, 6, 82, 83, 84, 85, 86, 87, 88, 89, 90, 91, 92, 93, 94, 95, 96, 97, 98, 99, 100, 101, 102, 103, 104, 105, 106, 107, 108, 109, 110, 111, 112, 113, 114, 115, 116, 117, 118, 119, 120, 121, 122, 123, 124] rfl (by decide +kernel) (by decide +kernel)
set_option maxRecDepth 20000 in
theorem gX7_laws_X7_sheetWrong : GoodIn wsX7_laws (wsV RX7 260 RX7 yX7_sheetWrong wsX7_sheetWrong) := goodIn_app (goodIn_of _ (by decide +kernel)) ggX7_laws_X7_sheetWrong
set_option maxRecDepth 20000 in
theorem ggX7_laws_X7_unlike : GoodIn wsX7_laws wsX7_unlike := goodIn_q _ [17, 23, 38, 42, 47, 51, 57, 62, 69, 72, 76, 80] [9, 18, 19, 20, 21, 22, 6, 24, 25, 26, 27, 28, 29, 30, 31, 32, 33, 34, 35, 36, 37, 10, 39, 40, 41, 43, 44, 45, 46, 48, 49, 50, 52, 53, 54, 55, 56, 58, 59, 60, 61, 63, 1, 64, 65, 66, 67, 68, 70, 71, 73, 74, 75, 77, 78, 79, 81, 82, 83, 84, 85, 86, 87, 88, 89, 90, 91, 92, 93, 94, 95, 96, 97, 98, 99, 100, 101, 102, 103, 104, 105, 106, 107, 108, 109, 110, 111, 112, 113, 114, 115, 116, 117, 118, 119, 120, 121, 122, 123, 124] rfl (by decide +kernel) (by decide +kernel)
set_option maxRecDepth 20000 in
theorem gX7_laws_X7_unlike : GoodIn wsX7_laws (wsV RX7 263 RX7 yX7_unlike wsX7_unlike) := goodIn_app (goodIn_of _ (by decide +kernel)) ggX7_laws_X7_unlike
theorem dX7_laws_0 : decode cX7_laws 0 = .ok (.aload_n 0, 1) := by decide +kernel
theorem dX7_laws_1 : decode cX7_laws 1 = .ok (.iload_n 1, 1) := by decide +kernel
theorem dX7_laws_2 : decode cX7_laws 2 = .ok (.invokevirtual 260, 3) := by decide +kernel
theorem dX7_laws_5 : decode cX7_laws 5 = .ok (.istore_n 2, 1) := by decide +kernel
theorem dX7_laws_6 : decode cX7_laws 6 = .ok (.iload_n 2, 1) := by decide +kernel
theorem dX7_laws_7 : decode cX7_laws 7 = .ok (.ifCond .eq 5, 3) := by decide +kernel
theorem dX7_laws_10 : decode cX7_laws 10 = .ok (.iload_n 2, 1) := by decide +kernel
theorem dX7_laws_11 : decode cX7_laws 11 = .ok (.ireturn, 1) := by decide +kernel
theorem dX7_laws_12 : decode cX7_laws 12 = .ok (.aload_n 0, 1) := by decide +kernel
theorem dX7_laws_13 : decode cX7_laws 13 = .ok (.getfield 103, 3) := by decide +kernel
theorem dX7_laws_16 : decode cX7_laws 16 = .ok (.istore_n 3, 1) := by decide +kernel
theorem dX7_laws_17 : decode cX7_laws 17 = .ok (.iconst 0, 1) := by decide +kernel
theorem dX7_laws_18 : decode cX7_laws 18 = .ok (.istore 4, 2) := by decide +kernel
theorem dX7_laws_20 : decode cX7_laws 20 = .ok (.iconst 0, 1) := by decide +kernel
theorem dX7_laws_21 : decode cX7_laws 21 = .ok (.istore 5, 2) := by decide +kernel
theorem dX7_laws_23 : decode cX7_laws 23 = .ok (.iload 5, 2) := by decide +kernel
theorem dX7_laws_25 : decode cX7_laws 25 = .ok (.aload_n 0, 1) := by decide +kernel
theorem dX7_laws_26 : decode cX7_laws 26 = .ok (.getfield 100, 3) := by decide +kernel
theorem dX7_laws_29 : decode cX7_laws 29 = .ok (.if_icmp .ge 37, 3) := by decide +kernel
theorem dX7_laws_32 : decode cX7_laws 32 = .ok (.aload_n 0, 1) := by decide +kernel
theorem dX7_laws_33 : decode cX7_laws 33 = .ok (.iload 5, 2) := by decide +kernel
theorem dX7_laws_35 : decode cX7_laws 35 = .ok (.putfield 103, 3) := by decide +kernel
theorem dX7_laws_38 : decode cX7_laws 38 = .ok (.iload 4, 2) := by decide +kernel
theorem dX7_laws_40 : decode cX7_laws 40 = .ok (.aload_n 0, 1) := by decide +kernel
theorem dX7_laws_41 : decode cX7_laws 41 = .ok (.iload_n 1, 1) := by decide +kernel
theorem dX7_laws_42 : decode cX7_laws 42 = .ok (.invokevirtual 263, 3) := by decide +kernel
theorem dX7_laws_45 : decode cX7_laws 45 = .ok (.iconst (-1), 1) := by decide +kernel
theorem dX7_laws_46 : decode cX7_laws 46 = .ok (.if_icmp .ne 10, 3) := by decide +kernel
theorem dX7_laws_49 : decode cX7_laws 49 = .ok (.iconst 1, 1) := by decide +kernel
theorem dX7_laws_50 : decode cX7_laws 50 = .ok (.iload 5, 2) := by decide +kernel
theorem dX7_laws_52 : decode cX7_laws 52 = .ok (.ishl, 1) := by decide +kernel
theorem dX7_laws_53 : decode cX7_laws 53 = .ok (.goto 4, 3) := by decide +kernel
theorem dX7_laws_56 : decode cX7_laws 56 = .ok (.iconst 0, 1) := by decide +kernel
theorem dX7_laws_57 : decode cX7_laws 57 = .ok (.ior, 1) := by decide +kernel
theorem dX7_laws_58 : decode cX7_laws 58 = .ok (.istore 4, 2) := by decide +kernel
theorem dX7_laws_60 : decode cX7_laws 60 = .ok (.iinc 5 1, 3) := by decide +kernel
theorem dX7_laws_63 : decode cX7_laws 63 = .ok (.goto (-40), 3) := by decide +kernel
theorem dX7_laws_66 : decode cX7_laws 66 = .ok (.aload_n 0, 1) := by decide +kernel
theorem dX7_laws_67 : decode cX7_laws 67 = .ok (.iload_n 3, 1) := by decide +kernel
theorem dX7_laws_68 : decode cX7_laws 68 = .ok (.putfield 103, 3) := by decide +kernel
theorem dX7_laws_71 : decode cX7_laws 71 = .ok (.iload 4, 2) := by decide +kernel
theorem dX7_laws_73 : decode cX7_laws 73 = .ok (.ireturn, 1) := by decide +kernel
set_option maxRecDepth 20000 in
theorem ggX7_film_X7_in : GoodIn wsX7_film wsX7_in := goodIn_q _ [9] [] rfl (by decide +kernel) (by decide +kernel)
set_option maxRecDepth 20000 in
theorem gX7_film_X7_in : GoodIn wsX7_film (va_wsS RX7 93 yX7_in wsX7_in) := goodIn_app (goodIn_of _ (by decide +kernel)) ggX7_film_X7_in
set_option maxRecDepth 20000 in
theorem ggX7_film_X7_sups : GoodIn wsX7_film wsX7_sups := goodIn_q _ [13, 28, 32, 37, 41, 47, 52, 60, 63, 67, 71] [14, 5, 15, 16, 17, 18, 19, 20, 21, 22, 23, 24, 25, 26, 27, 8, 3, 29, 30, 31, 33, 34, 35, 36, 38, 39, 40, 42, 43, 44, 45, 46, 48, 49, 50, 51, 53, 54, 55, 56, 57, 58, 59, 61, 62, 64, 65, 66, 68, 69, 70, 72, 73, 74, 75, 76, 77, 78, 79, 80, 81, 82, 83, 84, 85, 86, 87, 88, 89, 90, 91, 92, 93, 94, 95, 96, 97, 98, 99, 100, 101, 102, 103, 104, 105, 106, 107, 108, 109, 110, 111, 112, 113, 114, 115] rfl (by decide +kernel) (by decide +kernel)
set_option maxRecDepth 20000 in
theorem gX7_film_X7_sups : GoodIn wsX7_film (wsV RX7 219 RX7 yX7_sups wsX7_sups) := goodIn_app (goodIn_of _ (by decide +kernel)) ggX7_film_X7_sups
set_option maxRecDepth 20000 in
theorem ggX7_film_X7_within : GoodIn wsX7_film wsX7_within := goodIn_q _ [63] [] rfl (by decide +kernel) (by decide +kernel)
set_option maxRecDepth 20000 in
theorem gX7_film_X7_within : GoodIn wsX7_film (va_wsS RX7 173 yX7_within wsX7_within) := goodIn_app (goodIn_of _ (by decide +kernel)) ggX7_film_X7_within
theorem dX7_film_0 : decode cX7_film 0 = .ok (.iload_n 1, 1) := by decide +kernel
theorem dX7_film_1 : decode cX7_film 1 = .ok (.iconst 0, 1) := by decide +kernel
theorem dX7_film_2 : decode cX7_film 2 = .ok (.iconst 3, 1) := by decide +kernel
theorem dX7_film_3 : decode cX7_film 3 = .ok (.invokestatic 93, 3) := by decide +kernel
theorem dX7_film_6 : decode cX7_film 6 = .ok (.ifCond .ne 6, 3) := by decide +kernel
theorem dX7_film_9 : decode cX7_film 9 = .ok (.bipush (-2), 2) := by decide +kernel
theorem dX7_film_11 : decode cX7_film 11 = .ok (.ireturn, 1) := by decide +kernel
theorem dX7_film_12 : decode cX7_film 12 = .ok (.aload_n 0, 1) := by decide +kernel
theorem dX7_film_13 : decode cX7_film 13 = .ok (.iconst (-1), 1) := by decide +kernel
theorem dX7_film_14 : decode cX7_film 14 = .ok (.invokevirtual 219, 3) := by decide +kernel
theorem dX7_film_17 : decode cX7_film 17 = .ok (.aload_n 0, 1) := by decide +kernel
theorem dX7_film_18 : decode cX7_film 18 = .ok (.getfield 38, 3) := by decide +kernel
theorem dX7_film_21 : decode cX7_film 21 = .ok (.iload_n 1, 1) := by decide +kernel
theorem dX7_film_22 : decode cX7_film 22 = .ok (.iconst 0, 1) := by decide +kernel
theorem dX7_film_23 : decode cX7_film 23 = .ok (.iastore, 1) := by decide +kernel
theorem dX7_film_24 : decode cX7_film 24 = .ok (.aload_n 0, 1) := by decide +kernel
theorem dX7_film_25 : decode cX7_film 25 = .ok (.getfield 41, 3) := by decide +kernel
theorem dX7_film_28 : decode cX7_film 28 = .ok (.iload_n 1, 1) := by decide +kernel
theorem dX7_film_29 : decode cX7_film 29 = .ok (.aload_n 0, 1) := by decide +kernel
theorem dX7_film_30 : decode cX7_film 30 = .ok (.getfield 90, 3) := by decide +kernel
theorem dX7_film_33 : decode cX7_film 33 = .ok (.iastore, 1) := by decide +kernel
theorem dX7_film_34 : decode cX7_film 34 = .ok (.iconst 0, 1) := by decide +kernel
theorem dX7_film_35 : decode cX7_film 35 = .ok (.istore_n 2, 1) := by decide +kernel
theorem dX7_film_36 : decode cX7_film 36 = .ok (.iload_n 2, 1) := by decide +kernel
theorem dX7_film_37 : decode cX7_film 37 = .ok (.bipush 40, 2) := by decide +kernel
theorem dX7_film_39 : decode cX7_film 39 = .ok (.if_icmp .ge 51, 3) := by decide +kernel
theorem dX7_film_42 : decode cX7_film 42 = .ok (.aload_n 0, 1) := by decide +kernel
theorem dX7_film_43 : decode cX7_film 43 = .ok (.getfield 44, 3) := by decide +kernel
theorem dX7_film_46 : decode cX7_film 46 = .ok (.bipush 40, 2) := by decide +kernel
theorem dX7_film_48 : decode cX7_film 48 = .ok (.iload_n 1, 1) := by decide +kernel
theorem dX7_film_49 : decode cX7_film 49 = .ok (.imul, 1) := by decide +kernel
theorem dX7_film_50 : decode cX7_film 50 = .ok (.iload_n 2, 1) := by decide +kernel
theorem dX7_film_51 : decode cX7_film 51 = .ok (.iadd, 1) := by decide +kernel
theorem dX7_film_52 : decode cX7_film 52 = .ok (.iconst 0, 1) := by decide +kernel
theorem dX7_film_53 : decode cX7_film 53 = .ok (.iastore, 1) := by decide +kernel
theorem dX7_film_54 : decode cX7_film 54 = .ok (.iload_n 2, 1) := by decide +kernel
theorem dX7_film_55 : decode cX7_film 55 = .ok (.aload_n 0, 1) := by decide +kernel
theorem dX7_film_56 : decode cX7_film 56 = .ok (.getfield 90, 3) := by decide +kernel
theorem dX7_film_59 : decode cX7_film 59 = .ok (.if_icmp .ge 25, 3) := by decide +kernel
theorem dX7_film_62 : decode cX7_film 62 = .ok (.aload_n 0, 1) := by decide +kernel
theorem dX7_film_63 : decode cX7_film 63 = .ok (.getfield 44, 3) := by decide +kernel
theorem dX7_film_66 : decode cX7_film 66 = .ok (.bipush 40, 2) := by decide +kernel
theorem dX7_film_68 : decode cX7_film 68 = .ok (.iload_n 1, 1) := by decide +kernel
theorem dX7_film_69 : decode cX7_film 69 = .ok (.imul, 1) := by decide +kernel
theorem dX7_film_70 : decode cX7_film 70 = .ok (.iload_n 2, 1) := by decide +kernel
theorem dX7_film_71 : decode cX7_film 71 = .ok (.iadd, 1) := by decide +kernel
theorem dX7_film_72 : decode cX7_film 72 = .ok (.aload_n 0, 1) := by decide +kernel
theorem dX7_film_73 : decode cX7_film 73 = .ok (.getfield 71, 3) := by decide +kernel
theorem dX7_film_76 : decode cX7_film 76 = .ok (.iload_n 2, 1) := by decide +kernel
theorem dX7_film_77 : decode cX7_film 77 = .ok (.iconst 0, 1) := by decide +kernel
theorem dX7_film_78 : decode cX7_film 78 = .ok (.iconst 5, 1) := by decide +kernel
theorem dX7_film_79 : decode cX7_film 79 = .ok (.invokestatic 173, 3) := by decide +kernel
theorem dX7_film_82 : decode cX7_film 82 = .ok (.iaload, 1) := by decide +kernel
theorem dX7_film_83 : decode cX7_film 83 = .ok (.iastore, 1) := by decide +kernel
theorem dX7_film_84 : decode cX7_film 84 = .ok (.iinc 2 1, 3) := by decide +kernel
theorem dX7_film_87 : decode cX7_film 87 = .ok (.goto (-51), 3) := by decide +kernel
theorem dX7_film_90 : decode cX7_film 90 = .ok (.aload_n 0, 1) := by decide +kernel
theorem dX7_film_91 : decode cX7_film 91 = .ok (.getfield 90, 3) := by decide +kernel
theorem dX7_film_94 : decode cX7_film 94 = .ok (.ireturn, 1) := by decide +kernel
set_option maxRecDepth 20000 in
theorem ggX7_lotRanks_X7_keeps : GoodIn wsX7_lotRanks wsX7_keeps := goodIn_q _ [10] [11, 4, 12, 79, 80, 81, 82, 83, 84, 85, 86, 87, 88, 89, 90, 91, 92, 93, 94, 95, 96, 97, 98, 99, 100, 101, 102, 103, 104, 105, 106, 107, 108, 109, 110, 111, 112, 113, 114, 115, 116, 117, 118, 119, 120, 121] rfl (by decide +kernel) (by decide +kernel)
set_option maxRecDepth 20000 in
theorem gX7_lotRanks_X7_keeps : GoodIn wsX7_lotRanks (wsV RX7 235 RX7 yX7_keeps wsX7_keeps) := goodIn_app (goodIn_of _ (by decide +kernel)) ggX7_lotRanks_X7_keeps
set_option maxRecDepth 20000 in
theorem ggX7_lotRanks_X7_sups : GoodIn wsX7_lotRanks wsX7_sups := goodIn_q _ [16, 32, 36, 40, 44, 50, 55, 63, 66, 70, 74] [17, 18, 19, 20, 21, 22, 23, 24, 25, 26, 27, 28, 29, 30, 31, 9, 1, 33, 34, 35, 4, 37, 38, 39, 41, 42, 43, 45, 46, 47, 48, 49, 51, 52, 53, 54, 56, 57, 58, 59, 60, 61, 62, 64, 65, 67, 68, 69, 71, 72, 73, 12, 79, 80, 81, 82, 83, 84, 85, 86, 87, 88, 89, 90, 91, 92, 93, 94, 95, 96, 97, 98, 99, 100, 101, 102, 103, 104, 105, 106, 107, 108, 109, 110, 111, 112, 113, 114, 115, 116, 117, 118, 119, 120, 121] rfl (by decide +kernel) (by decide +kernel)
set_option maxRecDepth 20000 in
theorem gX7_lotRanks_X7_sups : GoodIn wsX7_lotRanks (wsV RX7 219 RX7 yX7_sups wsX7_sups) := goodIn_app (goodIn_of _ (by decide +kernel)) ggX7_lotRanks_X7_sups
set_option maxRecDepth 20000 in
theorem ggX7_lotRanks_X7_lays : GoodIn wsX7_lotRanks wsX7_lays := goodIn_q _ [78] [4, 11, 12, 79, 80, 81, 82, 83, 84, 85, 86, 87, 88, 89, 90, 91, 92, 93, 94, 95, 96, 97, 98, 99, 100, 101, 102, 103, 104, 105, 106, 107, 108, 109, 110, 111, 112, 113, 114, 115, 116, 117, 118, 119, 120, 121] rfl (by decide +kernel) (by decide +kernel)
set_option maxRecDepth 20000 in
theorem gX7_lotRanks_X7_lays : GoodIn wsX7_lotRanks (wsV RX7 238 RX7 yX7_lays wsX7_lays) := goodIn_app (goodIn_of _ (by decide +kernel)) ggX7_lotRanks_X7_lays
theorem dX7_lotRanks_0 : decode cX7_lotRanks 0 = .ok (.iload_n 1, 1) := by decide +kernel
theorem dX7_lotRanks_1 : decode cX7_lotRanks 1 = .ok (.i2l, 1) := by decide +kernel
theorem dX7_lotRanks_2 : decode cX7_lotRanks 2 = .ok (.lconst 1, 1) := by decide +kernel
theorem dX7_lotRanks_3 : decode cX7_lotRanks 3 = .ok (.ladd, 1) := by decide +kernel
theorem dX7_lotRanks_4 : decode cX7_lotRanks 4 = .ok (.lstore_n 2, 1) := by decide +kernel
theorem dX7_lotRanks_5 : decode cX7_lotRanks 5 = .ok (.aload_n 0, 1) := by decide +kernel
theorem dX7_lotRanks_6 : decode cX7_lotRanks 6 = .ok (.invokevirtual 235, 3) := by decide +kernel
theorem dX7_lotRanks_9 : decode cX7_lotRanks 9 = .ok (.iconst 0, 1) := by decide +kernel
theorem dX7_lotRanks_10 : decode cX7_lotRanks 10 = .ok (.istore 4, 2) := by decide +kernel
theorem dX7_lotRanks_12 : decode cX7_lotRanks 12 = .ok (.iload 4, 2) := by decide +kernel
theorem dX7_lotRanks_14 : decode cX7_lotRanks 14 = .ok (.aload_n 0, 1) := by decide +kernel
theorem dX7_lotRanks_15 : decode cX7_lotRanks 15 = .ok (.getfield 90, 3) := by decide +kernel
theorem dX7_lotRanks_18 : decode cX7_lotRanks 18 = .ok (.if_icmp .ge 34, 3) := by decide +kernel
theorem dX7_lotRanks_21 : decode cX7_lotRanks 21 = .ok (.lload_n 2, 1) := by decide +kernel
theorem dX7_lotRanks_22 : decode cX7_lotRanks 22 = .ok (.ldc2_w 269, 3) := by decide +kernel
theorem dX7_lotRanks_25 : decode cX7_lotRanks 25 = .ok (.lmul, 1) := by decide +kernel
theorem dX7_lotRanks_26 : decode cX7_lotRanks 26 = .ok (.ldc2_w 271, 3) := by decide +kernel
theorem dX7_lotRanks_29 : decode cX7_lotRanks 29 = .ok (.lrem, 1) := by decide +kernel
theorem dX7_lotRanks_30 : decode cX7_lotRanks 30 = .ok (.lstore_n 2, 1) := by decide +kernel
theorem dX7_lotRanks_31 : decode cX7_lotRanks 31 = .ok (.aload_n 0, 1) := by decide +kernel
theorem dX7_lotRanks_32 : decode cX7_lotRanks 32 = .ok (.getfield 16, 3) := by decide +kernel
theorem dX7_lotRanks_35 : decode cX7_lotRanks 35 = .ok (.iconst 2, 1) := by decide +kernel
theorem dX7_lotRanks_36 : decode cX7_lotRanks 36 = .ok (.iload 4, 2) := by decide +kernel
theorem dX7_lotRanks_38 : decode cX7_lotRanks 38 = .ok (.imul, 1) := by decide +kernel
theorem dX7_lotRanks_39 : decode cX7_lotRanks 39 = .ok (.lload_n 2, 1) := by decide +kernel
theorem dX7_lotRanks_40 : decode cX7_lotRanks 40 = .ok (.ldc2_w 273, 3) := by decide +kernel
theorem dX7_lotRanks_43 : decode cX7_lotRanks 43 = .ok (.lrem, 1) := by decide +kernel
theorem dX7_lotRanks_44 : decode cX7_lotRanks 44 = .ok (.l2i, 1) := by decide +kernel
theorem dX7_lotRanks_45 : decode cX7_lotRanks 45 = .ok (.iastore, 1) := by decide +kernel
theorem dX7_lotRanks_46 : decode cX7_lotRanks 46 = .ok (.iinc 4 1, 3) := by decide +kernel
theorem dX7_lotRanks_49 : decode cX7_lotRanks 49 = .ok (.goto (-37), 3) := by decide +kernel
theorem dX7_lotRanks_52 : decode cX7_lotRanks 52 = .ok (.aload_n 0, 1) := by decide +kernel
theorem dX7_lotRanks_53 : decode cX7_lotRanks 53 = .ok (.iconst (-1), 1) := by decide +kernel
theorem dX7_lotRanks_54 : decode cX7_lotRanks 54 = .ok (.invokevirtual 219, 3) := by decide +kernel
theorem dX7_lotRanks_57 : decode cX7_lotRanks 57 = .ok (.aload_n 0, 1) := by decide +kernel
theorem dX7_lotRanks_58 : decode cX7_lotRanks 58 = .ok (.invokevirtual 238, 3) := by decide +kernel
theorem dX7_lotRanks_61 : decode cX7_lotRanks 61 = .ok (.return_, 1) := by decide +kernel
set_option maxRecDepth 20000 in
theorem ggX7_drawn_X7_in : GoodIn wsX7_drawn wsX7_in := goodIn_q _ [8] [] rfl (by decide +kernel) (by decide +kernel)
set_option maxRecDepth 20000 in
theorem gX7_drawn_X7_in : GoodIn wsX7_drawn (va_wsS RX7 93 yX7_in wsX7_in) := goodIn_app (goodIn_of _ (by decide +kernel)) ggX7_drawn_X7_in
set_option maxRecDepth 20000 in
theorem ggX7_drawn_X7_lotRanks : GoodIn wsX7_drawn wsX7_lotRanks := goodIn_q _ [12, 21, 27, 41, 45, 49, 53, 59, 64, 72, 75, 79, 83, 87] [13, 14, 15, 16, 17, 18, 19, 20, 7, 22, 23, 24, 25, 26, 28, 29, 30, 31, 4, 32, 3, 33, 34, 35, 36, 37, 38, 39, 40, 42, 43, 44, 46, 47, 48, 50, 51, 52, 54, 55, 56, 57, 58, 60, 61, 62, 63, 65, 66, 67, 68, 69, 70, 71, 73, 74, 76, 77, 78, 80, 81, 82, 84, 85, 86, 88, 89, 90, 91, 92, 93, 94, 95, 96, 97, 98, 99, 100, 101, 102, 103, 104, 105, 106, 107, 108, 109, 110, 111, 112, 113, 114, 115, 116, 117, 118, 119, 120, 121, 122, 123, 124, 125, 126, 127, 128, 129, 130] rfl (by decide +kernel) (by decide +kernel)
set_option maxRecDepth 20000 in
theorem gX7_drawn_X7_lotRanks : GoodIn wsX7_drawn (wsV RX7 276 RX7 yX7_lotRanks wsX7_lotRanks) := goodIn_app (goodIn_of _ (by decide +kernel)) ggX7_drawn_X7_lotRanks
theorem dX7_drawn_0 : decode cX7_drawn 0 = .ok (.iload_n 1, 1) := by decide +kernel
theorem dX7_drawn_1 : decode cX7_drawn 1 = .ok (.iconst 0, 1) := by decide +kernel
theorem dX7_drawn_2 : decode cX7_drawn 2 = .ok (.ldc_w 275, 3) := by decide +kernel
theorem dX7_drawn_5 : decode cX7_drawn 5 = .ok (.invokestatic 93, 3) := by decide +kernel
theorem dX7_drawn_8 : decode cX7_drawn 8 = .ok (.ifCond .eq 12, 3) := by decide +kernel
theorem dX7_drawn_11 : decode cX7_drawn 11 = .ok (.iload_n 2, 1) := by decide +kernel
theorem dX7_drawn_12 : decode cX7_drawn 12 = .ok (.iconst 0, 1) := by decide +kernel
theorem dX7_drawn_13 : decode cX7_drawn 13 = .ok (.iconst 1, 1) := by decide +kernel
theorem dX7_drawn_14 : decode cX7_drawn 14 = .ok (.invokestatic 93, 3) := by decide +kernel
theorem dX7_drawn_17 : decode cX7_drawn 17 = .ok (.ifCond .ne 6, 3) := by decide +kernel
theorem dX7_drawn_20 : decode cX7_drawn 20 = .ok (.ldc 222, 2) := by decide +kernel
theorem dX7_drawn_22 : decode cX7_drawn 22 = .ok (.ireturn, 1) := by decide +kernel
theorem dX7_drawn_23 : decode cX7_drawn 23 = .ok (.aload_n 0, 1) := by decide +kernel
theorem dX7_drawn_24 : decode cX7_drawn 24 = .ok (.iload_n 1, 1) := by decide +kernel
theorem dX7_drawn_25 : decode cX7_drawn 25 = .ok (.invokevirtual 276, 3) := by decide +kernel
theorem dX7_drawn_28 : decode cX7_drawn 28 = .ok (.iload_n 2, 1) := by decide +kernel
theorem dX7_drawn_29 : decode cX7_drawn 29 = .ok (.ifCond .ne 10, 3) := by decide +kernel
theorem dX7_drawn_32 : decode cX7_drawn 32 = .ok (.aload_n 0, 1) := by decide +kernel
theorem dX7_drawn_33 : decode cX7_drawn 33 = .ok (.getfield 200, 3) := by decide +kernel
theorem dX7_drawn_36 : decode cX7_drawn 36 = .ok (.goto 7, 3) := by decide +kernel
theorem dX7_drawn_39 : decode cX7_drawn 39 = .ok (.aload_n 0, 1) := by decide +kernel
theorem dX7_drawn_40 : decode cX7_drawn 40 = .ok (.getfield 194, 3) := by decide +kernel
theorem dX7_drawn_43 : decode cX7_drawn 43 = .ok (.ireturn, 1) := by decide +kernel
set_option maxRecDepth 20000 in
theorem ggX7_odds_X7_in : GoodIn wsX7_odds wsX7_in := goodIn_q _ [7] [] rfl (by decide +kernel) (by decide +kernel)
set_option maxRecDepth 20000 in
theorem gX7_odds_X7_in : GoodIn wsX7_odds (va_wsS RX7 93 yX7_in wsX7_in) := goodIn_app (goodIn_of _ (by decide +kernel)) ggX7_odds_X7_in
set_option maxRecDepth 20000 in
theorem ggX7_odds_X7_lotRanks : GoodIn wsX7_odds wsX7_lotRanks := goodIn_q _ [11, 20, 26, 41, 45, 49, 53, 59, 64, 72, 75, 79, 83, 87] [12, 13, 14, 15, 16, 17, 18, 19, 6, 21, 22, 23, 24, 25, 27, 28, 29, 30, 31, 32, 3, 33, 34, 35, 36, 37, 38, 39, 40, 42, 43, 44, 46, 47, 48, 50, 51, 52, 54, 55, 56, 57, 58, 60, 61, 62, 63, 65, 66, 67, 68, 69, 70, 71, 73, 74, 76, 77, 78, 80, 81, 82, 84, 85, 86, 91, 92, 93, 94, 95, 96, 97, 98, 99, 100, 101, 102, 103, 104, 105, 106, 107, 108, 109, 110, 111, 112, 113, 114, 115, 116, 117, 118, 119, 120, 121, 122, 123, 124, 125, 126, 127, 128, 129, 130, 131, 132, 133] rfl (by decide +kernel) (by decide +kernel)
set_option maxRecDepth 20000 in
theorem gX7_odds_X7_lotRanks : GoodIn wsX7_odds (wsV RX7 276 RX7 yX7_lotRanks wsX7_lotRanks) := goodIn_app (goodIn_of _ (by decide +kernel)) ggX7_odds_X7_lotRanks
set_option maxRecDepth 20000 in
theorem ggX7_odds_X7_lowest : GoodIn wsX7_odds wsX7_lowest := goodIn_q _ [90] [] rfl (by decide +kernel) (by decide +kernel)
set_option maxRecDepth 20000 in
theorem gX7_odds_X7_lowest : GoodIn wsX7_odds (va_wsS RX7 256 yX7_lowest wsX7_lowest) := goodIn_app (goodIn_of _ (by decide +kernel)) ggX7_odds_X7_lowest
theorem dX7_odds_0 : decode cX7_odds 0 = .ok (.iload_n 1, 1) := by decide +kernel
theorem dX7_odds_1 : decode cX7_odds 1 = .ok (.iconst 0, 1) := by decide +kernel
theorem dX7_odds_2 : decode cX7_odds 2 = .ok (.ldc_w 275, 3) := by decide +kernel
theorem dX7_odds_5 : decode cX7_odds 5 = .ok (.invokestatic 93, 3) := by decide +kernel
theorem dX7_odds_8 : decode cX7_odds 8 = .ok (.ifCond .eq 36, 3) := by decide +kernel
theorem dX7_odds_11 : decode cX7_odds 11 = .ok (.iload_n 2, 1) := by decide +kernel
theorem dX7_odds_12 : decode cX7_odds 12 = .ok (.iconst 1, 1) := by decide +kernel
theorem dX7_odds_13 : decode cX7_odds 13 = .ok (.bipush 40, 2) := by decide +kernel
theorem dX7_odds_15 : decode cX7_odds 15 = .ok (.invokestatic 93, 3) := by decide +kernel
theorem dX7_odds_18 : decode cX7_odds 18 = .ok (.ifCond .eq 26, 3) := by decide +kernel
theorem dX7_odds_21 : decode cX7_odds 21 = .ok (.iload_n 3, 1) := by decide +kernel
theorem dX7_odds_22 : decode cX7_odds 22 = .ok (.sipush (-999), 3) := by decide +kernel
theorem dX7_odds_25 : decode cX7_odds 25 = .ok (.sipush 9999, 3) := by decide +kernel
theorem dX7_odds_28 : decode cX7_odds 28 = .ok (.invokestatic 93, 3) := by decide +kernel
theorem dX7_odds_31 : decode cX7_odds 31 = .ok (.ifCond .eq 13, 3) := by decide +kernel
theorem dX7_odds_34 : decode cX7_odds 34 = .ok (.iload 4, 2) := by decide +kernel
theorem dX7_odds_36 : decode cX7_odds 36 = .ok (.iconst 0, 1) := by decide +kernel
theorem dX7_odds_37 : decode cX7_odds 37 = .ok (.iconst 1, 1) := by decide +kernel
theorem dX7_odds_38 : decode cX7_odds 38 = .ok (.invokestatic 93, 3) := by decide +kernel
theorem dX7_odds_41 : decode cX7_odds 41 = .ok (.ifCond .ne 7, 3) := by decide +kernel
theorem dX7_odds_44 : decode cX7_odds 44 = .ok (.ldc2_w 254, 3) := by decide +kernel
theorem dX7_odds_47 : decode cX7_odds 47 = .ok (.lreturn, 1) := by decide +kernel
theorem dX7_odds_48 : decode cX7_odds 48 = .ok (.lconst 0, 1) := by decide +kernel
theorem dX7_odds_49 : decode cX7_odds 49 = .ok (.lstore 5, 2) := by decide +kernel
theorem dX7_odds_51 : decode cX7_odds 51 = .ok (.iconst 0, 1) := by decide +kernel
theorem dX7_odds_52 : decode cX7_odds 52 = .ok (.istore 7, 2) := by decide +kernel
theorem dX7_odds_54 : decode cX7_odds 54 = .ok (.iload 7, 2) := by decide +kernel
theorem dX7_odds_56 : decode cX7_odds 56 = .ok (.iload_n 2, 1) := by decide +kernel
theorem dX7_odds_57 : decode cX7_odds 57 = .ok (.if_icmp .ge 35, 3) := by decide +kernel
theorem dX7_odds_60 : decode cX7_odds 60 = .ok (.aload_n 0, 1) := by decide +kernel
theorem dX7_odds_61 : decode cX7_odds 61 = .ok (.iload_n 1, 1) := by decide +kernel
theorem dX7_odds_62 : decode cX7_odds 62 = .ok (.iload 7, 2) := by decide +kernel
theorem dX7_odds_64 : decode cX7_odds 64 = .ok (.iadd, 1) := by decide +kernel
theorem dX7_odds_65 : decode cX7_odds 65 = .ok (.invokevirtual 276, 3) := by decide +kernel
theorem dX7_odds_68 : decode cX7_odds 68 = .ok (.lload 5, 2) := by decide +kernel
theorem dX7_odds_70 : decode cX7_odds 70 = .ok (.aload_n 0, 1) := by decide +kernel
theorem dX7_odds_71 : decode cX7_odds 71 = .ok (.getfield 200, 3) := by decide +kernel
theorem dX7_odds_74 : decode cX7_odds 74 = .ok (.iload_n 3, 1) := by decide +kernel
theorem dX7_odds_75 : decode cX7_odds 75 = .ok (.if_icmp .gt 7, 3) := by decide +kernel
theorem dX7_odds_78 : decode cX7_odds 78 = .ok (.lconst 1, 1) := by decide +kernel
theorem dX7_odds_79 : decode cX7_odds 79 = .ok (.goto 4, 3) := by decide +kernel
theorem dX7_odds_82 : decode cX7_odds 82 = .ok (.lconst 0, 1) := by decide +kernel
theorem dX7_odds_83 : decode cX7_odds 83 = .ok (.ladd, 1) := by decide +kernel
theorem dX7_odds_84 : decode cX7_odds 84 = .ok (.lstore 5, 2) := by decide +kernel
theorem dX7_odds_86 : decode cX7_odds 86 = .ok (.iinc 7 1, 3) := by decide +kernel
theorem dX7_odds_89 : decode cX7_odds 89 = .ok (.goto (-35), 3) := by decide +kernel
theorem dX7_odds_92 : decode cX7_odds 92 = .ok (.lload 5, 2) := by decide +kernel
theorem dX7_odds_94 : decode cX7_odds 94 = .ok (.iload_n 2, 1) := by decide +kernel
theorem dX7_odds_95 : decode cX7_odds 95 = .ok (.i2l, 1) := by decide +kernel
theorem dX7_odds_96 : decode cX7_odds 96 = .ok (.iload 4, 2) := by decide +kernel
theorem dX7_odds_98 : decode cX7_odds 98 = .ok (.invokestatic 256, 3) := by decide +kernel
theorem dX7_odds_101 : decode cX7_odds 101 = .ok (.lreturn, 1) := by decide +kernel
theorem dX7_image_0 : decode cX7_image 0 = .ok (.aload_n 0, 1) := by decide +kernel
theorem dX7_image_1 : decode cX7_image 1 = .ok (.iconst 1, 1) := by decide +kernel
theorem dX7_image_2 : decode cX7_image 2 = .ok (.putfield 279, 3) := by decide +kernel
theorem dX7_image_5 : decode cX7_image 5 = .ok (.iconst 0, 1) := by decide +kernel
theorem dX7_image_6 : decode cX7_image 6 = .ok (.istore_n 1, 1) := by decide +kernel
theorem dX7_image_7 : decode cX7_image 7 = .ok (.iload_n 1, 1) := by decide +kernel
theorem dX7_image_8 : decode cX7_image 8 = .ok (.bipush 12, 2) := by decide +kernel
theorem dX7_image_10 : decode cX7_image 10 = .ok (.if_icmp .ge 21, 3) := by decide +kernel
theorem dX7_image_13 : decode cX7_image 13 = .ok (.aload_n 0, 1) := by decide +kernel
theorem dX7_image_14 : decode cX7_image 14 = .ok (.getfield 32, 3) := by decide +kernel
theorem dX7_image_17 : decode cX7_image 17 = .ok (.iload_n 1, 1) := by decide +kernel
theorem dX7_image_18 : decode cX7_image 18 = .ok (.aload_n 0, 1) := by decide +kernel
theorem dX7_image_19 : decode cX7_image 19 = .ok (.getfield 16, 3) := by decide +kernel
theorem dX7_image_22 : decode cX7_image 22 = .ok (.iload_n 1, 1) := by decide +kernel
theorem dX7_image_23 : decode cX7_image 23 = .ok (.iaload, 1) := by decide +kernel
theorem dX7_image_24 : decode cX7_image 24 = .ok (.iastore, 1) := by decide +kernel
theorem dX7_image_25 : decode cX7_image 25 = .ok (.iinc 1 1, 3) := by decide +kernel
theorem dX7_image_28 : decode cX7_image 28 = .ok (.goto (-21), 3) := by decide +kernel
theorem dX7_image_31 : decode cX7_image 31 = .ok (.aload_n 0, 1) := by decide +kernel
theorem dX7_image_32 : decode cX7_image 32 = .ok (.getfield 35, 3) := by decide +kernel
theorem dX7_image_35 : decode cX7_image 35 = .ok (.iconst 0, 1) := by decide +kernel
theorem dX7_image_36 : decode cX7_image 36 = .ok (.aload_n 0, 1) := by decide +kernel
theorem dX7_image_37 : decode cX7_image 37 = .ok (.getfield 90, 3) := by decide +kernel
theorem dX7_image_40 : decode cX7_image 40 = .ok (.iastore, 1) := by decide +kernel
theorem dX7_image_41 : decode cX7_image 41 = .ok (.aload_n 0, 1) := by decide +kernel
theorem dX7_image_42 : decode cX7_image 42 = .ok (.getfield 35, 3) := by decide +kernel
theorem dX7_image_45 : decode cX7_image 45 = .ok (.iconst 1, 1) := by decide +kernel
theorem dX7_image_46 : decode cX7_image 46 = .ok (.aload_n 0, 1) := by decide +kernel
theorem dX7_image_47 : decode cX7_image 47 = .ok (.getfield 97, 3) := by decide +kernel
theorem dX7_image_50 : decode cX7_image 50 = .ok (.iastore, 1) := by decide +kernel
theorem dX7_image_51 : decode cX7_image 51 = .ok (.aload_n 0, 1) := by decide +kernel
theorem dX7_image_52 : decode cX7_image 52 = .ok (.getfield 35, 3) := by decide +kernel
theorem dX7_image_55 : decode cX7_image 55 = .ok (.iconst 2, 1) := by decide +kernel
theorem dX7_image_56 : decode cX7_image 56 = .ok (.aload_n 0, 1) := by decide +kernel
theorem dX7_image_57 : decode cX7_image 57 = .ok (.getfield 19, 3) := by decide +kernel
theorem dX7_image_60 : decode cX7_image 60 = .ok (.iastore, 1) := by decide +kernel
theorem dX7_image_61 : decode cX7_image 61 = .ok (.aload_n 0, 1) := by decide +kernel
theorem dX7_image_62 : decode cX7_image 62 = .ok (.getfield 35, 3) := by decide +kernel
theorem dX7_image_65 : decode cX7_image 65 = .ok (.iconst 3, 1) := by decide +kernel
theorem dX7_image_66 : decode cX7_image 66 = .ok (.aload_n 0, 1) := by decide +kernel
theorem dX7_image_67 : decode cX7_image 67 = .ok (.getfield 103, 3) := by decide +kernel
theorem dX7_image_70 : decode cX7_image 70 = .ok (.iastore, 1) := by decide +kernel
theorem dX7_image_71 : decode cX7_image 71 = .ok (.aload_n 0, 1) := by decide +kernel
theorem dX7_image_72 : decode cX7_image 72 = .ok (.getfield 90, 3) := by decide +kernel
theorem dX7_image_75 : decode cX7_image 75 = .ok (.ireturn, 1) := by decide +kernel
theorem dX7_back_0 : decode cX7_back 0 = .ok (.aload_n 0, 1) := by decide +kernel
theorem dX7_back_1 : decode cX7_back 1 = .ok (.getfield 279, 3) := by decide +kernel
theorem dX7_back_4 : decode cX7_back 4 = .ok (.ifCond .ne 6, 3) := by decide +kernel
theorem dX7_back_7 : decode cX7_back 7 = .ok (.bipush (-3), 2) := by decide +kernel
theorem dX7_back_9 : decode cX7_back 9 = .ok (.ireturn, 1) := by decide +kernel
theorem dX7_back_10 : decode cX7_back 10 = .ok (.iconst 0, 1) := by decide +kernel
theorem dX7_back_11 : decode cX7_back 11 = .ok (.istore_n 1, 1) := by decide +kernel
theorem dX7_back_12 : decode cX7_back 12 = .ok (.iload_n 1, 1) := by decide +kernel
theorem dX7_back_13 : decode cX7_back 13 = .ok (.bipush 12, 2) := by decide +kernel
theorem dX7_back_15 : decode cX7_back 15 = .ok (.if_icmp .ge 21, 3) := by decide +kernel
theorem dX7_back_18 : decode cX7_back 18 = .ok (.aload_n 0, 1) := by decide +kernel
theorem dX7_back_19 : decode cX7_back 19 = .ok (.getfield 16, 3) := by decide +kernel
theorem dX7_back_22 : decode cX7_back 22 = .ok (.iload_n 1, 1) := by decide +kernel
theorem dX7_back_23 : decode cX7_back 23 = .ok (.aload_n 0, 1) := by decide +kernel
theorem dX7_back_24 : decode cX7_back 24 = .ok (.getfield 32, 3) := by decide +kernel
theorem dX7_back_27 : decode cX7_back 27 = .ok (.iload_n 1, 1) := by decide +kernel
theorem dX7_back_28 : decode cX7_back 28 = .ok (.iaload, 1) := by decide +kernel
theorem dX7_back_29 : decode cX7_back 29 = .ok (.iastore, 1) := by decide +kernel
theorem dX7_back_30 : decode cX7_back 30 = .ok (.iinc 1 1, 3) := by decide +kernel
theorem dX7_back_33 : decode cX7_back 33 = .ok (.goto (-21), 3) := by decide +kernel
theorem dX7_back_36 : decode cX7_back 36 = .ok (.aload_n 0, 1) := by decide +kernel
theorem dX7_back_37 : decode cX7_back 37 = .ok (.aload_n 0, 1) := by decide +kernel
theorem dX7_back_38 : decode cX7_back 38 = .ok (.getfield 35, 3) := by decide +kernel
theorem dX7_back_41 : decode cX7_back 41 = .ok (.iconst 0, 1) := by decide +kernel
theorem dX7_back_42 : decode cX7_back 42 = .ok (.iaload, 1) := by decide +kernel
theorem dX7_back_43 : decode cX7_back 43 = .ok (.putfield 90, 3) := by decide +kernel
theorem dX7_back_46 : decode cX7_back 46 = .ok (.aload_n 0, 1) := by decide +kernel
theorem dX7_back_47 : decode cX7_back 47 = .ok (.aload_n 0, 1) := by decide +kernel
theorem dX7_back_48 : decode cX7_back 48 = .ok (.getfield 35, 3) := by decide +kernel
theorem dX7_back_51 : decode cX7_back 51 = .ok (.iconst 1, 1) := by decide +kernel
theorem dX7_back_52 : decode cX7_back 52 = .ok (.iaload, 1) := by decide +kernel
theorem dX7_back_53 : decode cX7_back 53 = .ok (.putfield 97, 3) := by decide +kernel
theorem dX7_back_56 : decode cX7_back 56 = .ok (.aload_n 0, 1) := by decide +kernel
theorem dX7_back_57 : decode cX7_back 57 = .ok (.aload_n 0, 1) := by decide +kernel
theorem dX7_back_58 : decode cX7_back 58 = .ok (.getfield 35, 3) := by decide +kernel
theorem dX7_back_61 : decode cX7_back 61 = .ok (.iconst 2, 1) := by decide +kernel
theorem dX7_back_62 : decode cX7_back 62 = .ok (.iaload, 1) := by decide +kernel
theorem dX7_back_63 : decode cX7_back 63 = .ok (.putfield 19, 3) := by decide +kernel
theorem dX7_back_66 : decode cX7_back 66 = .ok (.aload_n 0, 1) := by decide +kernel
theorem dX7_back_67 : decode cX7_back 67 = .ok (.aload_n 0, 1) := by decide +kernel
theorem dX7_back_68 : decode cX7_back 68 = .ok (.getfield 35, 3) := by decide +kernel
theorem dX7_back_71 : decode cX7_back 71 = .ok (.iconst 3, 1) := by decide +kernel
theorem dX7_back_72 : decode cX7_back 72 = .ok (.iaload, 1) := by decide +kernel
theorem dX7_back_73 : decode cX7_back 73 = .ok (.putfield 103, 3) := by decide +kernel
theorem dX7_back_76 : decode cX7_back 76 = .ok (.aload_n 0, 1) := by decide +kernel
theorem dX7_back_77 : decode cX7_back 77 = .ok (.getfield 90, 3) := by decide +kernel
theorem dX7_back_80 : decode cX7_back 80 = .ok (.ireturn, 1) := by decide +kernel
set_option maxRecDepth 20000 in
theorem ggX7_sheet_X7_in : GoodIn wsX7_sheet wsX7_in := goodIn_q _ [7] [] rfl (by decide +kernel) (by decide +kernel)
set_option maxRecDepth 20000 in
theorem gX7_sheet_X7_in : GoodIn wsX7_sheet (va_wsS RX7 93 yX7_in wsX7_in) := goodIn_app (goodIn_of _ (by decide +kernel)) ggX7_sheet_X7_in
theorem dX7_sheet_0 : decode cX7_sheet 0 = .ok (.iload_n 1, 1) := by decide +kernel
theorem dX7_sheet_1 : decode cX7_sheet 1 = .ok (.iconst 0, 1) := by decide +kernel
theorem dX7_sheet_2 : decode cX7_sheet 2 = .ok (.iconst 3, 1) := by decide +kernel
theorem dX7_sheet_3 : decode cX7_sheet 3 = .ok (.invokestatic 93, 3) := by decide +kernel
theorem dX7_sheet_6 : decode cX7_sheet 6 = .ok (.ifCond .eq 23, 3) := by decide +kernel
theorem dX7_sheet_9 : decode cX7_sheet 9 = .ok (.iload_n 2, 1) := by decide +kernel
theorem dX7_sheet_10 : decode cX7_sheet 10 = .ok (.iconst (-1), 1) := by decide +kernel
theorem dX7_sheet_11 : decode cX7_sheet 11 = .ok (.iconst 2, 1) := by decide +kernel
theorem dX7_sheet_12 : decode cX7_sheet 12 = .ok (.invokestatic 93, 3) := by decide +kernel
theorem dX7_sheet_15 : decode cX7_sheet 15 = .ok (.ifCond .eq 14, 3) := by decide +kernel
theorem dX7_sheet_18 : decode cX7_sheet 18 = .ok (.iload_n 2, 1) := by decide +kernel
theorem dX7_sheet_19 : decode cX7_sheet 19 = .ok (.iconst (-1), 1) := by decide +kernel
theorem dX7_sheet_20 : decode cX7_sheet 20 = .ok (.if_icmp .eq 12, 3) := by decide +kernel
theorem dX7_sheet_23 : decode cX7_sheet 23 = .ok (.iload_n 3, 1) := by decide +kernel
theorem dX7_sheet_24 : decode cX7_sheet 24 = .ok (.bipush 40, 2) := by decide +kernel
theorem dX7_sheet_26 : decode cX7_sheet 26 = .ok (.if_icmp .le 6, 3) := by decide +kernel
theorem dX7_sheet_29 : decode cX7_sheet 29 = .ok (.bipush (-2), 2) := by decide +kernel
theorem dX7_sheet_31 : decode cX7_sheet 31 = .ok (.ireturn, 1) := by decide +kernel
theorem dX7_sheet_32 : decode cX7_sheet 32 = .ok (.iload_n 2, 1) := by decide +kernel
theorem dX7_sheet_33 : decode cX7_sheet 33 = .ok (.iconst (-1), 1) := by decide +kernel
theorem dX7_sheet_34 : decode cX7_sheet 34 = .ok (.if_icmp .eq 10, 3) := by decide +kernel
theorem dX7_sheet_37 : decode cX7_sheet 37 = .ok (.iload_n 3, 1) := by decide +kernel
theorem dX7_sheet_38 : decode cX7_sheet 38 = .ok (.ifCond .ge 6, 3) := by decide +kernel
theorem dX7_sheet_41 : decode cX7_sheet 41 = .ok (.bipush (-14), 2) := by decide +kernel
theorem dX7_sheet_43 : decode cX7_sheet 43 = .ok (.ireturn, 1) := by decide +kernel
theorem dX7_sheet_44 : decode cX7_sheet 44 = .ok (.aload_n 0, 1) := by decide +kernel
theorem dX7_sheet_45 : decode cX7_sheet 45 = .ok (.getfield 38, 3) := by decide +kernel
theorem dX7_sheet_48 : decode cX7_sheet 48 = .ok (.iload_n 1, 1) := by decide +kernel
theorem dX7_sheet_49 : decode cX7_sheet 49 = .ok (.iload_n 2, 1) := by decide +kernel
theorem dX7_sheet_50 : decode cX7_sheet 50 = .ok (.iastore, 1) := by decide +kernel
theorem dX7_sheet_51 : decode cX7_sheet 51 = .ok (.aload_n 0, 1) := by decide +kernel
theorem dX7_sheet_52 : decode cX7_sheet 52 = .ok (.getfield 41, 3) := by decide +kernel
theorem dX7_sheet_55 : decode cX7_sheet 55 = .ok (.iload_n 1, 1) := by decide +kernel
theorem dX7_sheet_56 : decode cX7_sheet 56 = .ok (.iload_n 2, 1) := by decide +kernel
theorem dX7_sheet_57 : decode cX7_sheet 57 = .ok (.iconst (-1), 1) := by decide +kernel
theorem dX7_sheet_58 : decode cX7_sheet 58 = .ok (.if_icmp .ne 7, 3) := by decide +kernel
theorem dX7_sheet_61 : decode cX7_sheet 61 = .ok (.iconst 0, 1) := by decide +kernel
theorem dX7_sheet_62 : decode cX7_sheet 62 = .ok (.goto 4, 3) := by decide +kernel
theorem dX7_sheet_65 : decode cX7_sheet 65 = .ok (.iload_n 3, 1) := by decide +kernel
theorem dX7_sheet_66 : decode cX7_sheet 66 = .ok (.iastore, 1) := by decide +kernel
theorem dX7_sheet_67 : decode cX7_sheet 67 = .ok (.iconst 0, 1) := by decide +kernel
theorem dX7_sheet_68 : decode cX7_sheet 68 = .ok (.istore 4, 2) := by decide +kernel
theorem dX7_sheet_70 : decode cX7_sheet 70 = .ok (.iload 4, 2) := by decide +kernel
theorem dX7_sheet_72 : decode cX7_sheet 72 = .ok (.bipush 40, 2) := by decide +kernel
theorem dX7_sheet_74 : decode cX7_sheet 74 = .ok (.if_icmp .ge 22, 3) := by decide +kernel
theorem dX7_sheet_77 : decode cX7_sheet 77 = .ok (.aload_n 0, 1) := by decide +kernel
theorem dX7_sheet_78 : decode cX7_sheet 78 = .ok (.getfield 44, 3) := by decide +kernel
theorem dX7_sheet_81 : decode cX7_sheet 81 = .ok (.bipush 40, 2) := by decide +kernel
theorem dX7_sheet_83 : decode cX7_sheet 83 = .ok (.iload_n 1, 1) := by decide +kernel
theorem dX7_sheet_84 : decode cX7_sheet 84 = .ok (.imul, 1) := by decide +kernel
theorem dX7_sheet_85 : decode cX7_sheet 85 = .ok (.iload 4, 2) := by decide +kernel
theorem dX7_sheet_87 : decode cX7_sheet 87 = .ok (.iadd, 1) := by decide +kernel
theorem dX7_sheet_88 : decode cX7_sheet 88 = .ok (.iconst 0, 1) := by decide +kernel
theorem dX7_sheet_89 : decode cX7_sheet 89 = .ok (.iastore, 1) := by decide +kernel
theorem dX7_sheet_90 : decode cX7_sheet 90 = .ok (.iinc 4 1, 3) := by decide +kernel
theorem dX7_sheet_93 : decode cX7_sheet 93 = .ok (.goto (-23), 3) := by decide +kernel
theorem dX7_sheet_96 : decode cX7_sheet 96 = .ok (.iconst 1, 1) := by decide +kernel
theorem dX7_sheet_97 : decode cX7_sheet 97 = .ok (.ireturn, 1) := by decide +kernel
set_option maxRecDepth 20000 in
theorem ggX7_cell_X7_in : GoodIn wsX7_cell wsX7_in := goodIn_q _ [7] [] rfl (by decide +kernel) (by decide +kernel)
set_option maxRecDepth 20000 in
theorem gX7_cell_X7_in : GoodIn wsX7_cell (va_wsS RX7 93 yX7_in wsX7_in) := goodIn_app (goodIn_of _ (by decide +kernel)) ggX7_cell_X7_in
theorem dX7_cell_0 : decode cX7_cell 0 = .ok (.iload_n 1, 1) := by decide +kernel
theorem dX7_cell_1 : decode cX7_cell 1 = .ok (.iconst 0, 1) := by decide +kernel
theorem dX7_cell_2 : decode cX7_cell 2 = .ok (.iconst 3, 1) := by decide +kernel
theorem dX7_cell_3 : decode cX7_cell 3 = .ok (.invokestatic 93, 3) := by decide +kernel
theorem dX7_cell_6 : decode cX7_cell 6 = .ok (.ifCond .ne 6, 3) := by decide +kernel
theorem dX7_cell_9 : decode cX7_cell 9 = .ok (.bipush (-2), 2) := by decide +kernel
theorem dX7_cell_11 : decode cX7_cell 11 = .ok (.ireturn, 1) := by decide +kernel
theorem dX7_cell_12 : decode cX7_cell 12 = .ok (.aload_n 0, 1) := by decide +kernel
theorem dX7_cell_13 : decode cX7_cell 13 = .ok (.getfield 38, 3) := by decide +kernel
theorem dX7_cell_16 : decode cX7_cell 16 = .ok (.iload_n 1, 1) := by decide +kernel
theorem dX7_cell_17 : decode cX7_cell 17 = .ok (.iaload, 1) := by decide +kernel
theorem dX7_cell_18 : decode cX7_cell 18 = .ok (.iconst (-1), 1) := by decide +kernel
theorem dX7_cell_19 : decode cX7_cell 19 = .ok (.if_icmp .ne 6, 3) := by decide +kernel
theorem dX7_cell_22 : decode cX7_cell 22 = .ok (.bipush (-11), 2) := by decide +kernel
theorem dX7_cell_24 : decode cX7_cell 24 = .ok (.ireturn, 1) := by decide +kernel
theorem dX7_cell_25 : decode cX7_cell 25 = .ok (.iload_n 2, 1) := by decide +kernel
theorem dX7_cell_26 : decode cX7_cell 26 = .ok (.iconst 0, 1) := by decide +kernel
theorem dX7_cell_27 : decode cX7_cell 27 = .ok (.aload_n 0, 1) := by decide +kernel
theorem dX7_cell_28 : decode cX7_cell 28 = .ok (.getfield 41, 3) := by decide +kernel
theorem dX7_cell_31 : decode cX7_cell 31 = .ok (.iload_n 1, 1) := by decide +kernel
theorem dX7_cell_32 : decode cX7_cell 32 = .ok (.iaload, 1) := by decide +kernel
theorem dX7_cell_33 : decode cX7_cell 33 = .ok (.iconst 1, 1) := by decide +kernel
theorem dX7_cell_34 : decode cX7_cell 34 = .ok (.isub, 1) := by decide +kernel
theorem dX7_cell_35 : decode cX7_cell 35 = .ok (.invokestatic 93, 3) := by decide +kernel
theorem dX7_cell_38 : decode cX7_cell 38 = .ok (.ifCond .ne 6, 3) := by decide +kernel
theorem dX7_cell_41 : decode cX7_cell 41 = .ok (.bipush (-12), 2) := by decide +kernel
theorem dX7_cell_43 : decode cX7_cell 43 = .ok (.ireturn, 1) := by decide +kernel
theorem dX7_cell_44 : decode cX7_cell 44 = .ok (.aload_n 0, 1) := by decide +kernel
theorem dX7_cell_45 : decode cX7_cell 45 = .ok (.getfield 44, 3) := by decide +kernel
theorem dX7_cell_48 : decode cX7_cell 48 = .ok (.bipush 40, 2) := by decide +kernel
theorem dX7_cell_50 : decode cX7_cell 50 = .ok (.iload_n 1, 1) := by decide +kernel
theorem dX7_cell_51 : decode cX7_cell 51 = .ok (.imul, 1) := by decide +kernel
theorem dX7_cell_52 : decode cX7_cell 52 = .ok (.iload_n 2, 1) := by decide +kernel
theorem dX7_cell_53 : decode cX7_cell 53 = .ok (.iadd, 1) := by decide +kernel
theorem dX7_cell_54 : decode cX7_cell 54 = .ok (.aload_n 0, 1) := by decide +kernel
theorem dX7_cell_55 : decode cX7_cell 55 = .ok (.getfield 38, 3) := by decide +kernel
theorem dX7_cell_58 : decode cX7_cell 58 = .ok (.iload_n 1, 1) := by decide +kernel
theorem dX7_cell_59 : decode cX7_cell 59 = .ok (.iaload, 1) := by decide +kernel
theorem dX7_cell_60 : decode cX7_cell 60 = .ok (.ifCond .ne 8, 3) := by decide +kernel
theorem dX7_cell_63 : decode cX7_cell 63 = .ok (.iload_n 3, 1) := by decide +kernel
theorem dX7_cell_64 : decode cX7_cell 64 = .ok (.i2b, 1) := by decide +kernel
theorem dX7_cell_65 : decode cX7_cell 65 = .ok (.goto 19, 3) := by decide +kernel
theorem dX7_cell_68 : decode cX7_cell 68 = .ok (.aload_n 0, 1) := by decide +kernel
theorem dX7_cell_69 : decode cX7_cell 69 = .ok (.getfield 38, 3) := by decide +kernel
theorem dX7_cell_72 : decode cX7_cell 72 = .ok (.iload_n 1, 1) := by decide +kernel
theorem dX7_cell_73 : decode cX7_cell 73 = .ok (.iaload, 1) := by decide +kernel
theorem dX7_cell_74 : decode cX7_cell 74 = .ok (.iconst 1, 1) := by decide +kernel
theorem dX7_cell_75 : decode cX7_cell 75 = .ok (.if_icmp .ne 8, 3) := by decide +kernel
theorem dX7_cell_78 : decode cX7_cell 78 = .ok (.iload_n 3, 1) := by decide +kernel
theorem dX7_cell_79 : decode cX7_cell 79 = .ok (.i2s, 1) := by decide +kernel
theorem dX7_cell_80 : decode cX7_cell 80 = .ok (.goto 4, 3) := by decide +kernel
theorem dX7_cell_83 : decode cX7_cell 83 = .ok (.iload_n 3, 1) := by decide +kernel
theorem dX7_cell_84 : decode cX7_cell 84 = .ok (.iastore, 1) := by decide +kernel
theorem dX7_cell_85 : decode cX7_cell 85 = .ok (.iconst 1, 1) := by decide +kernel
theorem dX7_cell_86 : decode cX7_cell 86 = .ok (.ireturn, 1) := by decide +kernel
set_option maxRecDepth 20000 in
theorem ggX7_copy_X7_in : GoodIn wsX7_copy wsX7_in := goodIn_q _ [7] [] rfl (by decide +kernel) (by decide +kernel)
set_option maxRecDepth 20000 in
theorem gX7_copy_X7_in : GoodIn wsX7_copy (va_wsS RX7 93 yX7_in wsX7_in) := goodIn_app (goodIn_of _ (by decide +kernel)) ggX7_copy_X7_in
theorem dX7_copy_0 : decode cX7_copy 0 = .ok (.iload_n 1, 1) := by decide +kernel
theorem dX7_copy_1 : decode cX7_copy 1 = .ok (.iconst 0, 1) := by decide +kernel
theorem dX7_copy_2 : decode cX7_copy 2 = .ok (.iconst 3, 1) := by decide +kernel
theorem dX7_copy_3 : decode cX7_copy 3 = .ok (.invokestatic 93, 3) := by decide +kernel
theorem dX7_copy_6 : decode cX7_copy 6 = .ok (.ifCond .eq 12, 3) := by decide +kernel
theorem dX7_copy_9 : decode cX7_copy 9 = .ok (.iload_n 3, 1) := by decide +kernel
theorem dX7_copy_10 : decode cX7_copy 10 = .ok (.iconst 0, 1) := by decide +kernel
theorem dX7_copy_11 : decode cX7_copy 11 = .ok (.iconst 3, 1) := by decide +kernel
theorem dX7_copy_12 : decode cX7_copy 12 = .ok (.invokestatic 93, 3) := by decide +kernel
theorem dX7_copy_15 : decode cX7_copy 15 = .ok (.ifCond .ne 6, 3) := by decide +kernel
theorem dX7_copy_18 : decode cX7_copy 18 = .ok (.bipush (-2), 2) := by decide +kernel
theorem dX7_copy_20 : decode cX7_copy 20 = .ok (.ireturn, 1) := by decide +kernel
theorem dX7_copy_21 : decode cX7_copy 21 = .ok (.aload_n 0, 1) := by decide +kernel
theorem dX7_copy_22 : decode cX7_copy 22 = .ok (.getfield 38, 3) := by decide +kernel
theorem dX7_copy_25 : decode cX7_copy 25 = .ok (.iload_n 1, 1) := by decide +kernel
theorem dX7_copy_26 : decode cX7_copy 26 = .ok (.iaload, 1) := by decide +kernel
theorem dX7_copy_27 : decode cX7_copy 27 = .ok (.iconst (-1), 1) := by decide +kernel
theorem dX7_copy_28 : decode cX7_copy 28 = .ok (.if_icmp .eq 13, 3) := by decide +kernel
theorem dX7_copy_31 : decode cX7_copy 31 = .ok (.aload_n 0, 1) := by decide +kernel
theorem dX7_copy_32 : decode cX7_copy 32 = .ok (.getfield 38, 3) := by decide +kernel
theorem dX7_copy_35 : decode cX7_copy 35 = .ok (.iload_n 3, 1) := by decide +kernel
theorem dX7_copy_36 : decode cX7_copy 36 = .ok (.iaload, 1) := by decide +kernel
theorem dX7_copy_37 : decode cX7_copy 37 = .ok (.iconst (-1), 1) := by decide +kernel
theorem dX7_copy_38 : decode cX7_copy 38 = .ok (.if_icmp .ne 6, 3) := by decide +kernel
theorem dX7_copy_41 : decode cX7_copy 41 = .ok (.bipush (-11), 2) := by decide +kernel
theorem dX7_copy_43 : decode cX7_copy 43 = .ok (.ireturn, 1) := by decide +kernel
theorem dX7_copy_44 : decode cX7_copy 44 = .ok (.aload_n 0, 1) := by decide +kernel
theorem dX7_copy_45 : decode cX7_copy 45 = .ok (.getfield 38, 3) := by decide +kernel
theorem dX7_copy_48 : decode cX7_copy 48 = .ok (.iload_n 1, 1) := by decide +kernel
theorem dX7_copy_49 : decode cX7_copy 49 = .ok (.iaload, 1) := by decide +kernel
theorem dX7_copy_50 : decode cX7_copy 50 = .ok (.aload_n 0, 1) := by decide +kernel
theorem dX7_copy_51 : decode cX7_copy 51 = .ok (.getfield 38, 3) := by decide +kernel
theorem dX7_copy_54 : decode cX7_copy 54 = .ok (.iload_n 3, 1) := by decide +kernel
theorem dX7_copy_55 : decode cX7_copy 55 = .ok (.iaload, 1) := by decide +kernel
theorem dX7_copy_56 : decode cX7_copy 56 = .ok (.if_icmp .eq 6, 3) := by decide +kernel
theorem dX7_copy_59 : decode cX7_copy 59 = .ok (.bipush (-13), 2) := by decide +kernel
theorem dX7_copy_61 : decode cX7_copy 61 = .ok (.ireturn, 1) := by decide +kernel
theorem dX7_copy_62 : decode cX7_copy 62 = .ok (.iload 5, 2) := by decide +kernel
theorem dX7_copy_64 : decode cX7_copy 64 = .ok (.ifCond .lt 60, 3) := by decide +kernel
theorem dX7_copy_67 : decode cX7_copy 67 = .ok (.iload_n 2, 1) := by decide +kernel
theorem dX7_copy_68 : decode cX7_copy 68 = .ok (.ifCond .lt 56, 3) := by decide +kernel
theorem dX7_copy_71 : decode cX7_copy 71 = .ok (.iload 4, 2) := by decide +kernel
theorem dX7_copy_73 : decode cX7_copy 73 = .ok (.ifCond .lt 51, 3) := by decide +kernel
theorem dX7_copy_76 : decode cX7_copy 76 = .ok (.iload_n 2, 1) := by decide +kernel
theorem dX7_copy_77 : decode cX7_copy 77 = .ok (.aload_n 0, 1) := by decide +kernel
theorem dX7_copy_78 : decode cX7_copy 78 = .ok (.getfield 41, 3) := by decide +kernel
theorem dX7_copy_81 : decode cX7_copy 81 = .ok (.iload_n 1, 1) := by decide +kernel
theorem dX7_copy_82 : decode cX7_copy 82 = .ok (.iaload, 1) := by decide +kernel
theorem dX7_copy_83 : decode cX7_copy 83 = .ok (.if_icmp .gt 41, 3) := by decide +kernel
theorem dX7_copy_86 : decode cX7_copy 86 = .ok (.iload 4, 2) := by decide +kernel
theorem dX7_copy_88 : decode cX7_copy 88 = .ok (.aload_n 0, 1) := by decide +kernel
theorem dX7_copy_89 : decode cX7_copy 89 = .ok (.getfield 41, 3) := by decide +kernel
theorem dX7_copy_92 : decode cX7_copy 92 = .ok (.iload_n 3, 1) := by decide +kernel
theorem dX7_copy_93 : decode cX7_copy 93 = .ok (.iaload, 1) := by decide +kernel
theorem dX7_copy_94 : decode cX7_copy 94 = .ok (.if_icmp .gt 30, 3) := by decide +kernel
theorem dX7_copy_97 : decode cX7_copy 97 = .ok (.iload 5, 2) := by decide +kernel
theorem dX7_copy_99 : decode cX7_copy 99 = .ok (.aload_n 0, 1) := by decide +kernel
theorem dX7_copy_100 : decode cX7_copy 100 = .ok (.getfield 41, 3) := by decide +kernel
theorem dX7_copy_103 : decode cX7_copy 103 = .ok (.iload_n 1, 1) := by decide +kernel
theorem dX7_copy_104 : decode cX7_copy 104 = .ok (.iaload, 1) := by decide +kernel
theorem dX7_copy_105 : decode cX7_copy 105 = .ok (.iload_n 2, 1) := by decide +kernel
theorem dX7_copy_106 : decode cX7_copy 106 = .ok (.isub, 1) := by decide +kernel
theorem dX7_copy_107 : decode cX7_copy 107 = .ok (.if_icmp .gt 17, 3) := by decide +kernel
theorem dX7_copy_110 : decode cX7_copy 110 = .ok (.iload 5, 2) := by decide +kernel
theorem dX7_copy_112 : decode cX7_copy 112 = .ok (.aload_n 0, 1) := by decide +kernel
theorem dX7_copy_113 : decode cX7_copy 113 = .ok (.getfield 41, 3) := by decide +kernel
theorem dX7_copy_116 : decode cX7_copy 116 = .ok (.iload_n 3, 1) := by decide +kernel
theorem dX7_copy_117 : decode cX7_copy 117 = .ok (.iaload, 1) := by decide +kernel
theorem dX7_copy_118 : decode cX7_copy 118 = .ok (.iload 4, 2) := by decide +kernel
theorem dX7_copy_120 : decode cX7_copy 120 = .ok (.isub, 1) := by decide +kernel
theorem dX7_copy_121 : decode cX7_copy 121 = .ok (.if_icmp .le 6, 3) := by decide +kernel
theorem dX7_copy_124 : decode cX7_copy 124 = .ok (.bipush (-12), 2) := by decide +kernel
theorem dX7_copy_126 : decode cX7_copy 126 = .ok (.ireturn, 1) := by decide +kernel
theorem dX7_copy_127 : decode cX7_copy 127 = .ok (.bipush 40, 2) := by decide +kernel
theorem dX7_copy_129 : decode cX7_copy 129 = .ok (.iload_n 1, 1) := by decide +kernel
theorem dX7_copy_130 : decode cX7_copy 130 = .ok (.imul, 1) := by decide +kernel
theorem dX7_copy_131 : decode cX7_copy 131 = .ok (.iload_n 2, 1) := by decide +kernel
theorem dX7_copy_132 : decode cX7_copy 132 = .ok (.iadd, 1) := by decide +kernel
theorem dX7_copy_133 : decode cX7_copy 133 = .ok (.istore 6, 2) := by decide +kernel
theorem dX7_copy_135 : decode cX7_copy 135 = .ok (.bipush 40, 2) := by decide +kernel
theorem dX7_copy_137 : decode cX7_copy 137 = .ok (.iload_n 3, 1) := by decide +kernel
theorem dX7_copy_138 : decode cX7_copy 138 = .ok (.imul, 1) := by decide +kernel
theorem dX7_copy_139 : decode cX7_copy 139 = .ok (.iload 4, 2) := by decide +kernel
theorem dX7_copy_141 : decode cX7_copy 141 = .ok (.iadd, 1) := by decide +kernel
theorem dX7_copy_142 : decode cX7_copy 142 = .ok (.istore 7, 2) := by decide +kernel
theorem dX7_copy_144 : decode cX7_copy 144 = .ok (.iconst 0, 1) := by decide +kernel
theorem dX7_copy_145 : decode cX7_copy 145 = .ok (.istore 8, 2) := by decide +kernel
theorem dX7_copy_147 : decode cX7_copy 147 = .ok (.iload 8, 2) := by decide +kernel
theorem dX7_copy_149 : decode cX7_copy 149 = .ok (.iload 5, 2) := by decide +kernel
theorem dX7_copy_151 : decode cX7_copy 151 = .ok (.if_icmp .ge 50, 3) := by decide +kernel
theorem dX7_copy_154 : decode cX7_copy 154 = .ok (.iload 6, 2) := by decide +kernel
theorem dX7_copy_156 : decode cX7_copy 156 = .ok (.iload 7, 2) := by decide +kernel
theorem dX7_copy_158 : decode cX7_copy 158 = .ok (.if_icmp .ge 13, 3) := by decide +kernel
theorem dX7_copy_161 : decode cX7_copy 161 = .ok (.iload 5, 2) := by decide +kernel
theorem dX7_copy_163 : decode cX7_copy 163 = .ok (.iconst 1, 1) := by decide +kernel
theorem dX7_copy_164 : decode cX7_copy 164 = .ok (.isub, 1) := by decide +kernel
theorem dX7_copy_165 : decode cX7_copy 165 = .ok (.iload 8, 2) := by decide +kernel
theorem dX7_copy_167 : decode cX7_copy 167 = .ok (.isub, 1) := by decide +kernel
theorem dX7_copy_168 : decode cX7_copy 168 = .ok (.goto 5, 3) := by decide +kernel
theorem dX7_copy_171 : decode cX7_copy 171 = .ok (.iload 8, 2) := by decide +kernel
theorem dX7_copy_173 : decode cX7_copy 173 = .ok (.istore 9, 2) := by decide +kernel
theorem dX7_copy_175 : decode cX7_copy 175 = .ok (.aload_n 0, 1) := by decide +kernel
theorem dX7_copy_176 : decode cX7_copy 176 = .ok (.getfield 44, 3) := by decide +kernel
theorem dX7_copy_179 : decode cX7_copy 179 = .ok (.iload 7, 2) := by decide +kernel
theorem dX7_copy_181 : decode cX7_copy 181 = .ok (.iload 9, 2) := by decide +kernel
theorem dX7_copy_183 : decode cX7_copy 183 = .ok (.iadd, 1) := by decide +kernel
theorem dX7_copy_184 : decode cX7_copy 184 = .ok (.aload_n 0, 1) := by decide +kernel
theorem dX7_copy_185 : decode cX7_copy 185 = .ok (.getfield 44, 3) := by decide +kernel
theorem dX7_copy_188 : decode cX7_copy 188 = .ok (.iload 6, 2) := by decide +kernel
theorem dX7_copy_190 : decode cX7_copy 190 = .ok (.iload 9, 2) := by decide +kernel
theorem dX7_copy_192 : decode cX7_copy 192 = .ok (.iadd, 1) := by decide +kernel
theorem dX7_copy_193 : decode cX7_copy 193 = .ok (.iaload, 1) := by decide +kernel
theorem dX7_copy_194 : decode cX7_copy 194 = .ok (.iastore, 1) := by decide +kernel
theorem dX7_copy_195 : decode cX7_copy 195 = .ok (.iinc 8 1, 3) := by decide +kernel
theorem dX7_copy_198 : decode cX7_copy 198 = .ok (.goto (-51), 3) := by decide +kernel
theorem dX7_copy_201 : decode cX7_copy 201 = .ok (.iload 5, 2) := by decide +kernel
theorem dX7_copy_203 : decode cX7_copy 203 = .ok (.ireturn, 1) := by decide +kernel
set_option maxRecDepth 20000 in
theorem ggX7_courtBy_X7_in : GoodIn wsX7_courtBy wsX7_in := goodIn_q _ [7] [] rfl (by decide +kernel) (by decide +kernel)
set_option maxRecDepth 20000 in
theorem gX7_courtBy_X7_in : GoodIn wsX7_courtBy (va_wsS RX7 93 yX7_in wsX7_in) := goodIn_app (goodIn_of _ (by decide +kernel)) ggX7_courtBy_X7_in
set_option maxRecDepth 20000 in
theorem ggX7_courtBy_X7_courtier : GoodIn wsX7_courtBy wsX7_courtier := goodIn_q _ [11, 7] [12, 13, 14, 15, 4, 5, 6, 16, 17, 18, 19, 20, 21, 22, 23, 24, 25, 26, 27, 28, 29, 30, 31, 32, 33, 34, 35, 36, 37, 38, 39, 40, 41, 42, 43, 44, 45, 46, 47, 48, 49, 50, 51, 52, 53, 54, 55, 56, 57, 58] rfl (by decide +kernel) (by decide +kernel)
set_option maxRecDepth 20000 in
theorem gX7_courtBy_X7_courtier : GoodIn wsX7_courtBy (wsV RX7 283 RX7 yX7_courtier wsX7_courtier) := goodIn_app (goodIn_of _ (by decide +kernel)) ggX7_courtBy_X7_courtier
theorem dX7_courtBy_0 : decode cX7_courtBy 0 = .ok (.iload_n 1, 1) := by decide +kernel
theorem dX7_courtBy_1 : decode cX7_courtBy 1 = .ok (.iconst 0, 1) := by decide +kernel
theorem dX7_courtBy_2 : decode cX7_courtBy 2 = .ok (.iconst 3, 1) := by decide +kernel
theorem dX7_courtBy_3 : decode cX7_courtBy 3 = .ok (.invokestatic 93, 3) := by decide +kernel
theorem dX7_courtBy_6 : decode cX7_courtBy 6 = .ok (.ifCond .eq 23, 3) := by decide +kernel
theorem dX7_courtBy_9 : decode cX7_courtBy 9 = .ok (.iload_n 2, 1) := by decide +kernel
theorem dX7_courtBy_10 : decode cX7_courtBy 10 = .ok (.iconst 0, 1) := by decide +kernel
theorem dX7_courtBy_11 : decode cX7_courtBy 11 = .ok (.iconst 2, 1) := by decide +kernel
theorem dX7_courtBy_12 : decode cX7_courtBy 12 = .ok (.invokestatic 93, 3) := by decide +kernel
theorem dX7_courtBy_15 : decode cX7_courtBy 15 = .ok (.ifCond .eq 14, 3) := by decide +kernel
theorem dX7_courtBy_18 : decode cX7_courtBy 18 = .ok (.iload 4, 2) := by decide +kernel
theorem dX7_courtBy_20 : decode cX7_courtBy 20 = .ok (.iconst 0, 1) := by decide +kernel
theorem dX7_courtBy_21 : decode cX7_courtBy 21 = .ok (.bipush 6, 2) := by decide +kernel
theorem dX7_courtBy_23 : decode cX7_courtBy 23 = .ok (.invokestatic 93, 3) := by decide +kernel
theorem dX7_courtBy_26 : decode cX7_courtBy 26 = .ok (.ifCond .ne 6, 3) := by decide +kernel
theorem dX7_courtBy_29 : decode cX7_courtBy 29 = .ok (.bipush (-2), 2) := by decide +kernel
theorem dX7_courtBy_31 : decode cX7_courtBy 31 = .ok (.ireturn, 1) := by decide +kernel
theorem dX7_courtBy_32 : decode cX7_courtBy 32 = .ok (.aload_n 0, 1) := by decide +kernel
theorem dX7_courtBy_33 : decode cX7_courtBy 33 = .ok (.getfield 38, 3) := by decide +kernel
theorem dX7_courtBy_36 : decode cX7_courtBy 36 = .ok (.iload_n 1, 1) := by decide +kernel
theorem dX7_courtBy_37 : decode cX7_courtBy 37 = .ok (.iaload, 1) := by decide +kernel
theorem dX7_courtBy_38 : decode cX7_courtBy 38 = .ok (.iconst (-1), 1) := by decide +kernel
theorem dX7_courtBy_39 : decode cX7_courtBy 39 = .ok (.if_icmp .ne 6, 3) := by decide +kernel
theorem dX7_courtBy_42 : decode cX7_courtBy 42 = .ok (.bipush (-11), 2) := by decide +kernel
theorem dX7_courtBy_44 : decode cX7_courtBy 44 = .ok (.ireturn, 1) := by decide +kernel
theorem dX7_courtBy_45 : decode cX7_courtBy 45 = .ok (.aload_n 0, 1) := by decide +kernel
theorem dX7_courtBy_46 : decode cX7_courtBy 46 = .ok (.getfield 38, 3) := by decide +kernel
theorem dX7_courtBy_49 : decode cX7_courtBy 49 = .ok (.iload_n 1, 1) := by decide +kernel
theorem dX7_courtBy_50 : decode cX7_courtBy 50 = .ok (.iaload, 1) := by decide +kernel
theorem dX7_courtBy_51 : decode cX7_courtBy 51 = .ok (.iload_n 2, 1) := by decide +kernel
theorem dX7_courtBy_52 : decode cX7_courtBy 52 = .ok (.if_icmp .eq 6, 3) := by decide +kernel
theorem dX7_courtBy_55 : decode cX7_courtBy 55 = .ok (.bipush (-13), 2) := by decide +kernel
theorem dX7_courtBy_57 : decode cX7_courtBy 57 = .ok (.ireturn, 1) := by decide +kernel
theorem dX7_courtBy_58 : decode cX7_courtBy 58 = .ok (.iconst 0, 1) := by decide +kernel
theorem dX7_courtBy_59 : decode cX7_courtBy 59 = .ok (.istore 5, 2) := by decide +kernel
theorem dX7_courtBy_61 : decode cX7_courtBy 61 = .ok (.iconst 0, 1) := by decide +kernel
theorem dX7_courtBy_62 : decode cX7_courtBy 62 = .ok (.istore 6, 2) := by decide +kernel
theorem dX7_courtBy_64 : decode cX7_courtBy 64 = .ok (.iload 6, 2) := by decide +kernel
theorem dX7_courtBy_66 : decode cX7_courtBy 66 = .ok (.iload 4, 2) := by decide +kernel
theorem dX7_courtBy_68 : decode cX7_courtBy 68 = .ok (.if_icmp .ge 85, 3) := by decide +kernel
theorem dX7_courtBy_71 : decode cX7_courtBy 71 = .ok (.iload_n 3, 1) := by decide +kernel
theorem dX7_courtBy_72 : decode cX7_courtBy 72 = .ok (.iconst 2, 1) := by decide +kernel
theorem dX7_courtBy_73 : decode cX7_courtBy 73 = .ok (.iload 6, 2) := by decide +kernel
theorem dX7_courtBy_75 : decode cX7_courtBy 75 = .ok (.imul, 1) := by decide +kernel
theorem dX7_courtBy_76 : decode cX7_courtBy 76 = .ok (.iadd, 1) := by decide +kernel
theorem dX7_courtBy_77 : decode cX7_courtBy 77 = .ok (.istore 7, 2) := by decide +kernel
theorem dX7_courtBy_79 : decode cX7_courtBy 79 = .ok (.iload_n 3, 1) := by decide +kernel
theorem dX7_courtBy_80 : decode cX7_courtBy 80 = .ok (.ifCond .lt 22, 3) := by decide +kernel
theorem dX7_courtBy_83 : decode cX7_courtBy 83 = .ok (.iload 7, 2) := by decide +kernel
theorem dX7_courtBy_85 : decode cX7_courtBy 85 = .ok (.iload_n 3, 1) := by decide +kernel
theorem dX7_courtBy_86 : decode cX7_courtBy 86 = .ok (.if_icmp .lt 16, 3) := by decide +kernel
theorem dX7_courtBy_89 : decode cX7_courtBy 89 = .ok (.iload 7, 2) := by decide +kernel
theorem dX7_courtBy_91 : decode cX7_courtBy 91 = .ok (.aload_n 0, 1) := by decide +kernel
theorem dX7_courtBy_92 : decode cX7_courtBy 92 = .ok (.getfield 41, 3) := by decide +kernel
theorem dX7_courtBy_95 : decode cX7_courtBy 95 = .ok (.iload_n 1, 1) := by decide +kernel
theorem dX7_courtBy_96 : decode cX7_courtBy 96 = .ok (.iaload, 1) := by decide +kernel
theorem dX7_courtBy_97 : decode cX7_courtBy 97 = .ok (.iconst 2, 1) := by decide +kernel
theorem dX7_courtBy_98 : decode cX7_courtBy 98 = .ok (.isub, 1) := by decide +kernel
theorem dX7_courtBy_99 : decode cX7_courtBy 99 = .ok (.if_icmp .le 6, 3) := by decide +kernel
theorem dX7_courtBy_102 : decode cX7_courtBy 102 = .ok (.bipush (-12), 2) := by decide +kernel
theorem dX7_courtBy_104 : decode cX7_courtBy 104 = .ok (.ireturn, 1) := by decide +kernel
theorem dX7_courtBy_105 : decode cX7_courtBy 105 = .ok (.bipush 40, 2) := by decide +kernel
theorem dX7_courtBy_107 : decode cX7_courtBy 107 = .ok (.iload_n 1, 1) := by decide +kernel
theorem dX7_courtBy_108 : decode cX7_courtBy 108 = .ok (.imul, 1) := by decide +kernel
theorem dX7_courtBy_109 : decode cX7_courtBy 109 = .ok (.iload 7, 2) := by decide +kernel
theorem dX7_courtBy_111 : decode cX7_courtBy 111 = .ok (.iadd, 1) := by decide +kernel
theorem dX7_courtBy_112 : decode cX7_courtBy 112 = .ok (.istore 8, 2) := by decide +kernel
theorem dX7_courtBy_114 : decode cX7_courtBy 114 = .ok (.iload 5, 2) := by decide +kernel
theorem dX7_courtBy_116 : decode cX7_courtBy 116 = .ok (.aload_n 0, 1) := by decide +kernel
theorem dX7_courtBy_117 : decode cX7_courtBy 117 = .ok (.aload_n 0, 1) := by decide +kernel
theorem dX7_courtBy_118 : decode cX7_courtBy 118 = .ok (.getfield 44, 3) := by decide +kernel
theorem dX7_courtBy_121 : decode cX7_courtBy 121 = .ok (.iload 8, 2) := by decide +kernel
theorem dX7_courtBy_123 : decode cX7_courtBy 123 = .ok (.iaload, 1) := by decide +kernel
theorem dX7_courtBy_124 : decode cX7_courtBy 124 = .ok (.aload_n 0, 1) := by decide +kernel
theorem dX7_courtBy_125 : decode cX7_courtBy 125 = .ok (.getfield 44, 3) := by decide +kernel
theorem dX7_courtBy_128 : decode cX7_courtBy 128 = .ok (.iload 8, 2) := by decide +kernel
theorem dX7_courtBy_130 : decode cX7_courtBy 130 = .ok (.iconst 1, 1) := by decide +kernel
theorem dX7_courtBy_131 : decode cX7_courtBy 131 = .ok (.iadd, 1) := by decide +kernel
theorem dX7_courtBy_132 : decode cX7_courtBy 132 = .ok (.iaload, 1) := by decide +kernel
theorem dX7_courtBy_133 : decode cX7_courtBy 133 = .ok (.invokevirtual 283, 3) := by decide +kernel
theorem dX7_courtBy_136 : decode cX7_courtBy 136 = .ok (.ifCond .lt 7, 3) := by decide +kernel
theorem dX7_courtBy_139 : decode cX7_courtBy 139 = .ok (.iconst 1, 1) := by decide +kernel
theorem dX7_courtBy_140 : decode cX7_courtBy 140 = .ok (.goto 4, 3) := by decide +kernel
theorem dX7_courtBy_143 : decode cX7_courtBy 143 = .ok (.iconst 0, 1) := by decide +kernel
theorem dX7_courtBy_144 : decode cX7_courtBy 144 = .ok (.iadd, 1) := by decide +kernel
theorem dX7_courtBy_145 : decode cX7_courtBy 145 = .ok (.istore 5, 2) := by decide +kernel
theorem dX7_courtBy_147 : decode cX7_courtBy 147 = .ok (.iinc 6 1, 3) := by decide +kernel
theorem dX7_courtBy_150 : decode cX7_courtBy 150 = .ok (.goto (-86), 3) := by decide +kernel
theorem dX7_courtBy_153 : decode cX7_courtBy 153 = .ok (.iload 5, 2) := by decide +kernel
theorem dX7_courtBy_155 : decode cX7_courtBy 155 = .ok (.ireturn, 1) := by decide +kernel
theorem dX7_isUnder_0 : decode cX7_isUnder 0 = .ok (.iload_n 1, 1) := by decide +kernel
theorem dX7_isUnder_1 : decode cX7_isUnder 1 = .ok (.ifCond .eq 28, 3) := by decide +kernel
theorem dX7_isUnder_4 : decode cX7_isUnder 4 = .ok (.iload_n 0, 1) := by decide +kernel
theorem dX7_isUnder_5 : decode cX7_isUnder 5 = .ok (.iload_n 1, 1) := by decide +kernel
theorem dX7_isUnder_6 : decode cX7_isUnder 6 = .ok (.if_icmp .eq 23, 3) := by decide +kernel
theorem dX7_isUnder_9 : decode cX7_isUnder 9 = .ok (.iload_n 1, 1) := by decide +kernel
theorem dX7_isUnder_10 : decode cX7_isUnder 10 = .ok (.iconst 1, 1) := by decide +kernel
theorem dX7_isUnder_11 : decode cX7_isUnder 11 = .ok (.if_icmp .ne 8, 3) := by decide +kernel
theorem dX7_isUnder_14 : decode cX7_isUnder 14 = .ok (.iload_n 0, 1) := by decide +kernel
theorem dX7_isUnder_15 : decode cX7_isUnder 15 = .ok (.iconst 3, 1) := by decide +kernel
theorem dX7_isUnder_16 : decode cX7_isUnder 16 = .ok (.if_icmp .eq 13, 3) := by decide +kernel
theorem dX7_isUnder_19 : decode cX7_isUnder 19 = .ok (.iload_n 1, 1) := by decide +kernel
theorem dX7_isUnder_20 : decode cX7_isUnder 20 = .ok (.iconst 2, 1) := by decide +kernel
theorem dX7_isUnder_21 : decode cX7_isUnder 21 = .ok (.if_icmp .ne 12, 3) := by decide +kernel
theorem dX7_isUnder_24 : decode cX7_isUnder 24 = .ok (.iload_n 0, 1) := by decide +kernel
theorem dX7_isUnder_25 : decode cX7_isUnder 25 = .ok (.iconst 4, 1) := by decide +kernel
theorem dX7_isUnder_26 : decode cX7_isUnder 26 = .ok (.if_icmp .ne 7, 3) := by decide +kernel
theorem dX7_isUnder_29 : decode cX7_isUnder 29 = .ok (.iconst 1, 1) := by decide +kernel
theorem dX7_isUnder_30 : decode cX7_isUnder 30 = .ok (.goto 4, 3) := by decide +kernel
theorem dX7_isUnder_33 : decode cX7_isUnder 33 = .ok (.iconst 0, 1) := by decide +kernel
theorem dX7_isUnder_34 : decode cX7_isUnder 34 = .ok (.ireturn, 1) := by decide +kernel
set_option maxRecDepth 20000 in
theorem ggX7_taken_X7_in : GoodIn wsX7_taken wsX7_in := goodIn_q _ [7] [] rfl (by decide +kernel) (by decide +kernel)
set_option maxRecDepth 20000 in
theorem gX7_taken_X7_in : GoodIn wsX7_taken (va_wsS RX7 93 yX7_in wsX7_in) := goodIn_app (goodIn_of _ (by decide +kernel)) ggX7_taken_X7_in
set_option maxRecDepth 20000 in
theorem ggX7_taken_X7_isUnder : GoodIn wsX7_taken wsX7_isUnder := goodIn_q _ [10] [] rfl (by decide +kernel) (by decide +kernel)
set_option maxRecDepth 20000 in
theorem gX7_taken_X7_isUnder : GoodIn wsX7_taken (va_wsS RX7 286 yX7_isUnder wsX7_isUnder) := goodIn_app (goodIn_of _ (by decide +kernel)) ggX7_taken_X7_isUnder
theorem dX7_taken_0 : decode cX7_taken 0 = .ok (.iload_n 2, 1) := by decide +kernel
theorem dX7_taken_1 : decode cX7_taken 1 = .ok (.iconst 0, 1) := by decide +kernel
theorem dX7_taken_2 : decode cX7_taken 2 = .ok (.bipush 6, 2) := by decide +kernel
theorem dX7_taken_4 : decode cX7_taken 4 = .ok (.invokestatic 93, 3) := by decide +kernel
theorem dX7_taken_7 : decode cX7_taken 7 = .ok (.ifCond .ne 6, 3) := by decide +kernel
theorem dX7_taken_10 : decode cX7_taken 10 = .ok (.bipush (-2), 2) := by decide +kernel
theorem dX7_taken_12 : decode cX7_taken 12 = .ok (.ireturn, 1) := by decide +kernel
theorem dX7_taken_13 : decode cX7_taken 13 = .ok (.iload_n 1, 1) := by decide +kernel
theorem dX7_taken_14 : decode cX7_taken 14 = .ok (.iconst 0, 1) := by decide +kernel
theorem dX7_taken_15 : decode cX7_taken 15 = .ok (.bipush 11, 2) := by decide +kernel
theorem dX7_taken_17 : decode cX7_taken 17 = .ok (.invokestatic 93, 3) := by decide +kernel
theorem dX7_taken_20 : decode cX7_taken 20 = .ok (.ifCond .ne 6, 3) := by decide +kernel
theorem dX7_taken_23 : decode cX7_taken 23 = .ok (.bipush (-12), 2) := by decide +kernel
theorem dX7_taken_25 : decode cX7_taken 25 = .ok (.ireturn, 1) := by decide +kernel
theorem dX7_taken_26 : decode cX7_taken 26 = .ok (.iload_n 1, 1) := by decide +kernel
theorem dX7_taken_27 : decode cX7_taken 27 = .ok (.bipush 6, 2) := by decide +kernel
theorem dX7_taken_29 : decode cX7_taken 29 = .ok (.irem, 1) := by decide +kernel
theorem dX7_taken_30 : decode cX7_taken 30 = .ok (.aload_n 0, 1) := by decide +kernel
theorem dX7_taken_31 : decode cX7_taken 31 = .ok (.getfield 90, 3) := by decide +kernel
theorem dX7_taken_34 : decode cX7_taken 34 = .ok (.if_icmp .lt 6, 3) := by decide +kernel
theorem dX7_taken_37 : decode cX7_taken 37 = .ok (.bipush (-11), 2) := by decide +kernel
theorem dX7_taken_39 : decode cX7_taken 39 = .ok (.ireturn, 1) := by decide +kernel
theorem dX7_taken_40 : decode cX7_taken 40 = .ok (.iload_n 1, 1) := by decide +kernel
theorem dX7_taken_41 : decode cX7_taken 41 = .ok (.bipush 6, 2) := by decide +kernel
theorem dX7_taken_43 : decode cX7_taken 43 = .ok (.if_icmp .lt 28, 3) := by decide +kernel
theorem dX7_taken_46 : decode cX7_taken 46 = .ok (.iload_n 2, 1) := by decide +kernel
theorem dX7_taken_47 : decode cX7_taken 47 = .ok (.bipush 6, 2) := by decide +kernel
theorem dX7_taken_49 : decode cX7_taken 49 = .ok (.if_icmp .ne 19, 3) := by decide +kernel
theorem dX7_taken_52 : decode cX7_taken 52 = .ok (.aload_n 0, 1) := by decide +kernel
theorem dX7_taken_53 : decode cX7_taken 53 = .ok (.getfield 16, 3) := by decide +kernel
theorem dX7_taken_56 : decode cX7_taken 56 = .ok (.iconst 2, 1) := by decide +kernel
theorem dX7_taken_57 : decode cX7_taken 57 = .ok (.iload_n 1, 1) := by decide +kernel
theorem dX7_taken_58 : decode cX7_taken 58 = .ok (.bipush 6, 2) := by decide +kernel
theorem dX7_taken_60 : decode cX7_taken 60 = .ok (.isub, 1) := by decide +kernel
theorem dX7_taken_61 : decode cX7_taken 61 = .ok (.imul, 1) := by decide +kernel
theorem dX7_taken_62 : decode cX7_taken 62 = .ok (.iconst 1, 1) := by decide +kernel
theorem dX7_taken_63 : decode cX7_taken 63 = .ok (.iadd, 1) := by decide +kernel
theorem dX7_taken_64 : decode cX7_taken 64 = .ok (.iaload, 1) := by decide +kernel
theorem dX7_taken_65 : decode cX7_taken 65 = .ok (.goto 5, 3) := by decide +kernel
theorem dX7_taken_68 : decode cX7_taken 68 = .ok (.bipush (-13), 2) := by decide +kernel
theorem dX7_taken_70 : decode cX7_taken 70 = .ok (.ireturn, 1) := by decide +kernel
theorem dX7_taken_71 : decode cX7_taken 71 = .ok (.iload_n 2, 1) := by decide +kernel
theorem dX7_taken_72 : decode cX7_taken 72 = .ok (.bipush 6, 2) := by decide +kernel
theorem dX7_taken_74 : decode cX7_taken 74 = .ok (.if_icmp .ge 20, 3) := by decide +kernel
theorem dX7_taken_77 : decode cX7_taken 77 = .ok (.aload_n 0, 1) := by decide +kernel
theorem dX7_taken_78 : decode cX7_taken 78 = .ok (.getfield 7, 3) := by decide +kernel
theorem dX7_taken_81 : decode cX7_taken 81 = .ok (.iload_n 1, 1) := by decide +kernel
theorem dX7_taken_82 : decode cX7_taken 82 = .ok (.iaload, 1) := by decide +kernel
theorem dX7_taken_83 : decode cX7_taken 83 = .ok (.iload_n 2, 1) := by decide +kernel
theorem dX7_taken_84 : decode cX7_taken 84 = .ok (.invokestatic 286, 3) := by decide +kernel
theorem dX7_taken_87 : decode cX7_taken 87 = .ok (.ifCond .eq 7, 3) := by decide +kernel
theorem dX7_taken_90 : decode cX7_taken 90 = .ok (.iload_n 1, 1) := by decide +kernel
theorem dX7_taken_91 : decode cX7_taken 91 = .ok (.goto 5, 3) := by decide +kernel
theorem dX7_taken_94 : decode cX7_taken 94 = .ok (.bipush (-13), 2) := by decide +kernel
theorem dX7_taken_96 : decode cX7_taken 96 = .ok (.ireturn, 1) := by decide +kernel
