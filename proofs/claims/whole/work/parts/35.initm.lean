/-! ===== the model's constructor (printed) ===== -/
theorem dX12_init_0 : decode cX12_init 0 = .ok (.aload_n 0, 1) := by decide +kernel
theorem dX12_init_1 : decode cX12_init 1 = .ok (.invokespecial 14, 3) := by decide +kernel
theorem dX12_init_4 : decode cX12_init 4 = .ok (.aload_n 0, 1) := by decide +kernel
theorem dX12_init_5 : decode cX12_init 5 = .ok (.bipush 7, 2) := by decide +kernel
theorem dX12_init_7 : decode cX12_init 7 = .ok (.newarray .int, 2) := by decide +kernel
theorem dX12_init_9 : decode cX12_init 9 = .ok (.putfield 7, 3) := by decide +kernel
theorem dX12_init_12 : decode cX12_init 12 = .ok (.aload_n 0, 1) := by decide +kernel
theorem dX12_init_13 : decode cX12_init 13 = .ok (.sipush 5860, 3) := by decide +kernel
theorem dX12_init_16 : decode cX12_init 16 = .ok (.newarray .int, 2) := by decide +kernel
theorem dX12_init_18 : decode cX12_init 18 = .ok (.putfield 20, 3) := by decide +kernel
theorem dX12_init_21 : decode cX12_init 21 = .ok (.aload_n 0, 1) := by decide +kernel
theorem dX12_init_22 : decode cX12_init 22 = .ok (.sipush 11720, 3) := by decide +kernel
theorem dX12_init_25 : decode cX12_init 25 = .ok (.newarray .int, 2) := by decide +kernel
theorem dX12_init_27 : decode cX12_init 27 = .ok (.putfield 23, 3) := by decide +kernel
theorem dX12_init_30 : decode cX12_init 30 = .ok (.aload_n 0, 1) := by decide +kernel
theorem dX12_init_31 : decode cX12_init 31 = .ok (.iconst 2, 1) := by decide +kernel
theorem dX12_init_32 : decode cX12_init 32 = .ok (.newarray .boolean, 2) := by decide +kernel
theorem dX12_init_34 : decode cX12_init 34 = .ok (.putfield 26, 3) := by decide +kernel
theorem dX12_init_37 : decode cX12_init 37 = .ok (.aload_n 0, 1) := by decide +kernel
theorem dX12_init_38 : decode cX12_init 38 = .ok (.sipush 134, 3) := by decide +kernel
theorem dX12_init_41 : decode cX12_init 41 = .ok (.newarray .byte, 2) := by decide +kernel
theorem dX12_init_43 : decode cX12_init 43 = .ok (.dup, 1) := by decide +kernel
theorem dX12_init_44 : decode cX12_init 44 = .ok (.iconst 0, 1) := by decide +kernel
theorem dX12_init_45 : decode cX12_init 45 = .ok (.bipush 115, 2) := by decide +kernel
theorem dX12_init_47 : decode cX12_init 47 = .ok (.bastore, 1) := by decide +kernel
theorem dX12_init_48 : decode cX12_init 48 = .ok (.dup, 1) := by decide +kernel
theorem dX12_init_49 : decode cX12_init 49 = .ok (.iconst 1, 1) := by decide +kernel
theorem dX12_init_50 : decode cX12_init 50 = .ok (.bipush 104, 2) := by decide +kernel
theorem dX12_init_52 : decode cX12_init 52 = .ok (.bastore, 1) := by decide +kernel
theorem dX12_init_53 : decode cX12_init 53 = .ok (.dup, 1) := by decide +kernel
theorem dX12_init_54 : decode cX12_init 54 = .ok (.iconst 2, 1) := by decide +kernel
theorem dX12_init_55 : decode cX12_init 55 = .ok (.bipush 117, 2) := by decide +kernel
theorem dX12_init_57 : decode cX12_init 57 = .ok (.bastore, 1) := by decide +kernel
theorem dX12_init_58 : decode cX12_init 58 = .ok (.dup, 1) := by decide +kernel
theorem dX12_init_59 : decode cX12_init 59 = .ok (.iconst 3, 1) := by decide +kernel
theorem dX12_init_60 : decode cX12_init 60 = .ok (.bipush 110, 2) := by decide +kernel
theorem dX12_init_62 : decode cX12_init 62 = .ok (.bastore, 1) := by decide +kernel
theorem dX12_init_63 : decode cX12_init 63 = .ok (.dup, 1) := by decide +kernel
theorem dX12_init_64 : decode cX12_init 64 = .ok (.iconst 4, 1) := by decide +kernel
theorem dX12_init_65 : decode cX12_init 65 = .ok (.bipush 115, 2) := by decide +kernel
theorem dX12_init_67 : decode cX12_init 67 = .ok (.bastore, 1) := by decide +kernel
theorem dX12_init_68 : decode cX12_init 68 = .ok (.dup, 1) := by decide +kernel
theorem dX12_init_69 : decode cX12_init 69 = .ok (.iconst 5, 1) := by decide +kernel
theorem dX12_init_70 : decode cX12_init 70 = .ok (.bipush 32, 2) := by decide +kernel
theorem dX12_init_72 : decode cX12_init 72 = .ok (.bastore, 1) := by decide +kernel
theorem dX12_init_73 : decode cX12_init 73 = .ok (.dup, 1) := by decide +kernel
theorem dX12_init_74 : decode cX12_init 74 = .ok (.bipush 6, 2) := by decide +kernel
theorem dX12_init_76 : decode cX12_init 76 = .ok (.bipush 114, 2) := by decide +kernel
theorem dX12_init_78 : decode cX12_init 78 = .ok (.bastore, 1) := by decide +kernel
theorem dX12_init_79 : decode cX12_init 79 = .ok (.dup, 1) := by decide +kernel
theorem dX12_init_80 : decode cX12_init 80 = .ok (.bipush 7, 2) := by decide +kernel
theorem dX12_init_82 : decode cX12_init 82 = .ok (.bipush 101, 2) := by decide +kernel
theorem dX12_init_84 : decode cX12_init 84 = .ok (.bastore, 1) := by decide +kernel
theorem dX12_init_85 : decode cX12_init 85 = .ok (.dup, 1) := by decide +kernel
theorem dX12_init_86 : decode cX12_init 86 = .ok (.bipush 8, 2) := by decide +kernel
theorem dX12_init_88 : decode cX12_init 88 = .ok (.bipush 97, 2) := by decide +kernel
theorem dX12_init_90 : decode cX12_init 90 = .ok (.bastore, 1) := by decide +kernel
theorem dX12_init_91 : decode cX12_init 91 = .ok (.dup, 1) := by decide +kernel
theorem dX12_init_92 : decode cX12_init 92 = .ok (.bipush 9, 2) := by decide +kernel
theorem dX12_init_94 : decode cX12_init 94 = .ok (.bipush 99, 2) := by decide +kernel
theorem dX12_init_96 : decode cX12_init 96 = .ok (.bastore, 1) := by decide +kernel
theorem dX12_init_97 : decode cX12_init 97 = .ok (.dup, 1) := by decide +kernel
theorem dX12_init_98 : decode cX12_init 98 = .ok (.bipush 10, 2) := by decide +kernel
theorem dX12_init_100 : decode cX12_init 100 = .ok (.bipush 104, 2) := by decide +kernel
theorem dX12_init_102 : decode cX12_init 102 = .ok (.bastore, 1) := by decide +kernel
theorem dX12_init_103 : decode cX12_init 103 = .ok (.dup, 1) := by decide +kernel
theorem dX12_init_104 : decode cX12_init 104 = .ok (.bipush 11, 2) := by decide +kernel
theorem dX12_init_106 : decode cX12_init 106 = .ok (.bipush 101, 2) := by decide +kernel
theorem dX12_init_108 : decode cX12_init 108 = .ok (.bastore, 1) := by decide +kernel
theorem dX12_init_109 : decode cX12_init 109 = .ok (.dup, 1) := by decide +kernel
theorem dX12_init_110 : decode cX12_init 110 = .ok (.bipush 12, 2) := by decide +kernel
theorem dX12_init_112 : decode cX12_init 112 = .ok (.bipush 115, 2) := by decide +kernel
theorem dX12_init_114 : decode cX12_init 114 = .ok (.bastore, 1) := by decide +kernel
theorem dX12_init_115 : decode cX12_init 115 = .ok (.dup, 1) := by decide +kernel
theorem dX12_init_116 : decode cX12_init 116 = .ok (.bipush 13, 2) := by decide +kernel
theorem dX12_init_118 : decode cX12_init 118 = .ok (.bipush 32, 2) := by decide +kernel
theorem dX12_init_120 : decode cX12_init 120 = .ok (.bastore, 1) := by decide +kernel
theorem dX12_init_121 : decode cX12_init 121 = .ok (.dup, 1) := by decide +kernel
theorem dX12_init_122 : decode cX12_init 122 = .ok (.bipush 14, 2) := by decide +kernel
theorem dX12_init_124 : decode cX12_init 124 = .ok (.bipush 100, 2) := by decide +kernel
theorem dX12_init_126 : decode cX12_init 126 = .ok (.bastore, 1) := by decide +kernel
theorem dX12_init_127 : decode cX12_init 127 = .ok (.dup, 1) := by decide +kernel
theorem dX12_init_128 : decode cX12_init 128 = .ok (.bipush 15, 2) := by decide +kernel
theorem dX12_init_130 : decode cX12_init 130 = .ok (.bipush 114, 2) := by decide +kernel
theorem dX12_init_132 : decode cX12_init 132 = .ok (.bastore, 1) := by decide +kernel
theorem dX12_init_133 : decode cX12_init 133 = .ok (.dup, 1) := by decide +kernel
theorem dX12_init_134 : decode cX12_init 134 = .ok (.bipush 16, 2) := by decide +kernel
theorem dX12_init_136 : decode cX12_init 136 = .ok (.bipush 105, 2) := by decide +kernel
theorem dX12_init_138 : decode cX12_init 138 = .ok (.bastore, 1) := by decide +kernel
theorem dX12_init_139 : decode cX12_init 139 = .ok (.dup, 1) := by decide +kernel
theorem dX12_init_140 : decode cX12_init 140 = .ok (.bipush 17, 2) := by decide +kernel
theorem dX12_init_142 : decode cX12_init 142 = .ok (.bipush 110, 2) := by decide +kernel
theorem dX12_init_144 : decode cX12_init 144 = .ok (.bastore, 1) := by decide +kernel
theorem dX12_init_145 : decode cX12_init 145 = .ok (.dup, 1) := by decide +kernel
theorem dX12_init_146 : decode cX12_init 146 = .ok (.bipush 18, 2) := by decide +kernel
theorem dX12_init_148 : decode cX12_init 148 = .ok (.bipush 107, 2) := by decide +kernel
theorem dX12_init_150 : decode cX12_init 150 = .ok (.bastore, 1) := by decide +kernel
theorem dX12_init_151 : decode cX12_init 151 = .ok (.dup, 1) := by decide +kernel
theorem dX12_init_152 : decode cX12_init 152 = .ok (.bipush 19, 2) := by decide +kernel
theorem dX12_init_154 : decode cX12_init 154 = .ok (.bipush 115, 2) := by decide +kernel
theorem dX12_init_156 : decode cX12_init 156 = .ok (.bastore, 1) := by decide +kernel
theorem dX12_init_157 : decode cX12_init 157 = .ok (.dup, 1) := by decide +kernel
theorem dX12_init_158 : decode cX12_init 158 = .ok (.bipush 20, 2) := by decide +kernel
theorem dX12_init_160 : decode cX12_init 160 = .ok (.bipush 32, 2) := by decide +kernel
theorem dX12_init_162 : decode cX12_init 162 = .ok (.bastore, 1) := by decide +kernel
theorem dX12_init_163 : decode cX12_init 163 = .ok (.dup, 1) := by decide +kernel
theorem dX12_init_164 : decode cX12_init 164 = .ok (.bipush 21, 2) := by decide +kernel
theorem dX12_init_166 : decode cX12_init 166 = .ok (.bipush 105, 2) := by decide +kernel
theorem dX12_init_168 : decode cX12_init 168 = .ok (.bastore, 1) := by decide +kernel
theorem dX12_init_169 : decode cX12_init 169 = .ok (.dup, 1) := by decide +kernel
theorem dX12_init_170 : decode cX12_init 170 = .ok (.bipush 22, 2) := by decide +kernel
theorem dX12_init_172 : decode cX12_init 172 = .ok (.bipush 102, 2) := by decide +kernel
theorem dX12_init_174 : decode cX12_init 174 = .ok (.bastore, 1) := by decide +kernel
theorem dX12_init_175 : decode cX12_init 175 = .ok (.dup, 1) := by decide +kernel
theorem dX12_init_176 : decode cX12_init 176 = .ok (.bipush 23, 2) := by decide +kernel
theorem dX12_init_178 : decode cX12_init 178 = .ok (.bipush 32, 2) := by decide +kernel
theorem dX12_init_180 : decode cX12_init 180 = .ok (.bastore, 1) := by decide +kernel
theorem dX12_init_181 : decode cX12_init 181 = .ok (.dup, 1) := by decide +kernel
theorem dX12_init_182 : decode cX12_init 182 = .ok (.bipush 24, 2) := by decide +kernel
theorem dX12_init_184 : decode cX12_init 184 = .ok (.bipush 111, 2) := by decide +kernel
theorem dX12_init_186 : decode cX12_init 186 = .ok (.bastore, 1) := by decide +kernel
theorem dX12_init_187 : decode cX12_init 187 = .ok (.dup, 1) := by decide +kernel
theorem dX12_init_188 : decode cX12_init 188 = .ok (.bipush 25, 2) := by decide +kernel
theorem dX12_init_190 : decode cX12_init 190 = .ok (.bipush 114, 2) := by decide +kernel
theorem dX12_init_192 : decode cX12_init 192 = .ok (.bastore, 1) := by decide +kernel
theorem dX12_init_193 : decode cX12_init 193 = .ok (.dup, 1) := by decide +kernel
theorem dX12_init_194 : decode cX12_init 194 = .ok (.bipush 26, 2) := by decide +kernel
theorem dX12_init_196 : decode cX12_init 196 = .ok (.bipush 32, 2) := by decide +kernel
theorem dX12_init_198 : decode cX12_init 198 = .ok (.bastore, 1) := by decide +kernel
theorem dX12_init_199 : decode cX12_init 199 = .ok (.dup, 1) := by decide +kernel
theorem dX12_init_200 : decode cX12_init 200 = .ok (.bipush 27, 2) := by decide +kernel
theorem dX12_init_202 : decode cX12_init 202 = .ok (.bipush 97, 2) := by decide +kernel
theorem dX12_init_204 : decode cX12_init 204 = .ok (.bastore, 1) := by decide +kernel
theorem dX12_init_205 : decode cX12_init 205 = .ok (.dup, 1) := by decide +kernel
theorem dX12_init_206 : decode cX12_init 206 = .ok (.bipush 28, 2) := by decide +kernel
theorem dX12_init_208 : decode cX12_init 208 = .ok (.bipush 110, 2) := by decide +kernel
theorem dX12_init_210 : decode cX12_init 210 = .ok (.bastore, 1) := by decide +kernel
theorem dX12_init_211 : decode cX12_init 211 = .ok (.dup, 1) := by decide +kernel
theorem dX12_init_212 : decode cX12_init 212 = .ok (.bipush 29, 2) := by decide +kernel
theorem dX12_init_214 : decode cX12_init 214 = .ok (.bipush 100, 2) := by decide +kernel
theorem dX12_init_216 : decode cX12_init 216 = .ok (.bastore, 1) := by decide +kernel
theorem dX12_init_217 : decode cX12_init 217 = .ok (.dup, 1) := by decide +kernel
theorem dX12_init_218 : decode cX12_init 218 = .ok (.bipush 30, 2) := by decide +kernel
theorem dX12_init_220 : decode cX12_init 220 = .ok (.bipush 32, 2) := by decide +kernel
theorem dX12_init_222 : decode cX12_init 222 = .ok (.bastore, 1) := by decide +kernel
theorem dX12_init_223 : decode cX12_init 223 = .ok (.dup, 1) := by decide +kernel
theorem dX12_init_224 : decode cX12_init 224 = .ok (.bipush 31, 2) := by decide +kernel
theorem dX12_init_226 : decode cX12_init 226 = .ok (.bipush 110, 2) := by decide +kernel
theorem dX12_init_228 : decode cX12_init 228 = .ok (.bastore, 1) := by decide +kernel
theorem dX12_init_229 : decode cX12_init 229 = .ok (.dup, 1) := by decide +kernel
theorem dX12_init_230 : decode cX12_init 230 = .ok (.bipush 32, 2) := by decide +kernel
theorem dX12_init_232 : decode cX12_init 232 = .ok (.bipush 111, 2) := by decide +kernel
theorem dX12_init_234 : decode cX12_init 234 = .ok (.bastore, 1) := by decide +kernel
theorem dX12_init_235 : decode cX12_init 235 = .ok (.dup, 1) := by decide +kernel
theorem dX12_init_236 : decode cX12_init 236 = .ok (.bipush 33, 2) := by decide +kernel
theorem dX12_init_238 : decode cX12_init 238 = .ok (.bipush 116, 2) := by decide +kernel
theorem dX12_init_240 : decode cX12_init 240 = .ok (.bastore, 1) := by decide +kernel
theorem dX12_init_241 : decode cX12_init 241 = .ok (.dup, 1) := by decide +kernel
theorem dX12_init_242 : decode cX12_init 242 = .ok (.bipush 34, 2) := by decide +kernel
theorem dX12_init_244 : decode cX12_init 244 = .ok (.bipush 32, 2) := by decide +kernel
theorem dX12_init_246 : decode cX12_init 246 = .ok (.bastore, 1) := by decide +kernel
theorem dX12_init_247 : decode cX12_init 247 = .ok (.dup, 1) := by decide +kernel
theorem dX12_init_248 : decode cX12_init 248 = .ok (.bipush 35, 2) := by decide +kernel
theorem dX12_init_250 : decode cX12_init 250 = .ok (.bipush 108, 2) := by decide +kernel
theorem dX12_init_252 : decode cX12_init 252 = .ok (.bastore, 1) := by decide +kernel
theorem dX12_init_253 : decode cX12_init 253 = .ok (.dup, 1) := by decide +kernel
theorem dX12_init_254 : decode cX12_init 254 = .ok (.bipush 36, 2) := by decide +kernel
theorem dX12_init_256 : decode cX12_init 256 = .ok (.bipush 97, 2) := by decide +kernel
theorem dX12_init_258 : decode cX12_init 258 = .ok (.bastore, 1) := by decide +kernel
theorem dX12_init_259 : decode cX12_init 259 = .ok (.dup, 1) := by decide +kernel
theorem dX12_init_260 : decode cX12_init 260 = .ok (.bipush 37, 2) := by decide +kernel
theorem dX12_init_262 : decode cX12_init 262 = .ok (.bipush 109, 2) := by decide +kernel
theorem dX12_init_264 : decode cX12_init 264 = .ok (.bastore, 1) := by decide +kernel
theorem dX12_init_265 : decode cX12_init 265 = .ok (.dup, 1) := by decide +kernel
theorem dX12_init_266 : decode cX12_init 266 = .ok (.bipush 38, 2) := by decide +kernel
theorem dX12_init_268 : decode cX12_init 268 = .ok (.bipush 112, 2) := by decide +kernel
theorem dX12_init_270 : decode cX12_init 270 = .ok (.bastore, 1) := by decide +kernel
theorem dX12_init_271 : decode cX12_init 271 = .ok (.dup, 1) := by decide +kernel
theorem dX12_init_272 : decode cX12_init 272 = .ok (.bipush 39, 2) := by decide +kernel
theorem dX12_init_274 : decode cX12_init 274 = .ok (.bipush 32, 2) := by decide +kernel
theorem dX12_init_276 : decode cX12_init 276 = .ok (.bastore, 1) := by decide +kernel
theorem dX12_init_277 : decode cX12_init 277 = .ok (.dup, 1) := by decide +kernel
theorem dX12_init_278 : decode cX12_init 278 = .ok (.bipush 40, 2) := by decide +kernel
theorem dX12_init_280 : decode cX12_init 280 = .ok (.bipush 107, 2) := by decide +kernel
theorem dX12_init_282 : decode cX12_init 282 = .ok (.bastore, 1) := by decide +kernel
theorem dX12_init_283 : decode cX12_init 283 = .ok (.dup, 1) := by decide +kernel
theorem dX12_init_284 : decode cX12_init 284 = .ok (.bipush 41, 2) := by decide +kernel
theorem dX12_init_286 : decode cX12_init 286 = .ok (.bipush 105, 2) := by decide +kernel
theorem dX12_init_288 : decode cX12_init 288 = .ok (.bastore, 1) := by decide +kernel
theorem dX12_init_289 : decode cX12_init 289 = .ok (.dup, 1) := by decide +kernel
theorem dX12_init_290 : decode cX12_init 290 = .ok (.bipush 42, 2) := by decide +kernel
theorem dX12_init_292 : decode cX12_init 292 = .ok (.bipush 110, 2) := by decide +kernel
theorem dX12_init_294 : decode cX12_init 294 = .ok (.bastore, 1) := by decide +kernel
theorem dX12_init_295 : decode cX12_init 295 = .ok (.dup, 1) := by decide +kernel
theorem dX12_init_296 : decode cX12_init 296 = .ok (.bipush 43, 2) := by decide +kernel
theorem dX12_init_298 : decode cX12_init 298 = .ok (.bipush 100, 2) := by decide +kernel
theorem dX12_init_300 : decode cX12_init 300 = .ok (.bastore, 1) := by decide +kernel
theorem dX12_init_301 : decode cX12_init 301 = .ok (.dup, 1) := by decide +kernel
theorem dX12_init_302 : decode cX12_init 302 = .ok (.bipush 44, 2) := by decide +kernel
theorem dX12_init_304 : decode cX12_init 304 = .ok (.bipush 32, 2) := by decide +kernel
theorem dX12_init_306 : decode cX12_init 306 = .ok (.bastore, 1) := by decide +kernel
theorem dX12_init_307 : decode cX12_init 307 = .ok (.dup, 1) := by decide +kernel
theorem dX12_init_308 : decode cX12_init 308 = .ok (.bipush 45, 2) := by decide +kernel
theorem dX12_init_310 : decode cX12_init 310 = .ok (.bipush 111, 2) := by decide +kernel
theorem dX12_init_312 : decode cX12_init 312 = .ok (.bastore, 1) := by decide +kernel
theorem dX12_init_313 : decode cX12_init 313 = .ok (.dup, 1) := by decide +kernel
theorem dX12_init_314 : decode cX12_init 314 = .ok (.bipush 46, 2) := by decide +kernel
theorem dX12_init_316 : decode cX12_init 316 = .ok (.bipush 116, 2) := by decide +kernel
theorem dX12_init_318 : decode cX12_init 318 = .ok (.bastore, 1) := by decide +kernel
theorem dX12_init_319 : decode cX12_init 319 = .ok (.dup, 1) := by decide +kernel
theorem dX12_init_320 : decode cX12_init 320 = .ok (.bipush 47, 2) := by decide +kernel
theorem dX12_init_322 : decode cX12_init 322 = .ok (.bipush 104, 2) := by decide +kernel
theorem dX12_init_324 : decode cX12_init 324 = .ok (.bastore, 1) := by decide +kernel
theorem dX12_init_325 : decode cX12_init 325 = .ok (.dup, 1) := by decide +kernel
theorem dX12_init_326 : decode cX12_init 326 = .ok (.bipush 48, 2) := by decide +kernel
theorem dX12_init_328 : decode cX12_init 328 = .ok (.bipush 101, 2) := by decide +kernel
theorem dX12_init_330 : decode cX12_init 330 = .ok (.bastore, 1) := by decide +kernel
theorem dX12_init_331 : decode cX12_init 331 = .ok (.dup, 1) := by decide +kernel
theorem dX12_init_332 : decode cX12_init 332 = .ok (.bipush 49, 2) := by decide +kernel
theorem dX12_init_334 : decode cX12_init 334 = .ok (.bipush 114, 2) := by decide +kernel
theorem dX12_init_336 : decode cX12_init 336 = .ok (.bastore, 1) := by decide +kernel
theorem dX12_init_337 : decode cX12_init 337 = .ok (.dup, 1) := by decide +kernel
theorem dX12_init_338 : decode cX12_init 338 = .ok (.bipush 50, 2) := by decide +kernel
theorem dX12_init_340 : decode cX12_init 340 = .ok (.bipush 32, 2) := by decide +kernel
theorem dX12_init_342 : decode cX12_init 342 = .ok (.bastore, 1) := by decide +kernel
theorem dX12_init_343 : decode cX12_init 343 = .ok (.dup, 1) := by decide +kernel
theorem dX12_init_344 : decode cX12_init 344 = .ok (.bipush 51, 2) := by decide +kernel
theorem dX12_init_346 : decode cX12_init 346 = .ok (.bipush 110, 2) := by decide +kernel
theorem dX12_init_348 : decode cX12_init 348 = .ok (.bastore, 1) := by decide +kernel
theorem dX12_init_349 : decode cX12_init 349 = .ok (.dup, 1) := by decide +kernel
theorem dX12_init_350 : decode cX12_init 350 = .ok (.bipush 52, 2) := by decide +kernel
theorem dX12_init_352 : decode cX12_init 352 = .ok (.bipush 101, 2) := by decide +kernel
theorem dX12_init_354 : decode cX12_init 354 = .ok (.bastore, 1) := by decide +kernel
theorem dX12_init_355 : decode cX12_init 355 = .ok (.dup, 1) := by decide +kernel
theorem dX12_init_356 : decode cX12_init 356 = .ok (.bipush 53, 2) := by decide +kernel
theorem dX12_init_358 : decode cX12_init 358 = .ok (.bipush 97, 2) := by decide +kernel
theorem dX12_init_360 : decode cX12_init 360 = .ok (.bastore, 1) := by decide +kernel
theorem dX12_init_361 : decode cX12_init 361 = .ok (.dup, 1) := by decide +kernel
theorem dX12_init_362 : decode cX12_init 362 = .ok (.bipush 54, 2) := by decide +kernel
theorem dX12_init_364 : decode cX12_init 364 = .ok (.bipush 114, 2) := by decide +kernel
theorem dX12_init_366 : decode cX12_init 366 = .ok (.bastore, 1) := by decide +kernel
theorem dX12_init_367 : decode cX12_init 367 = .ok (.dup, 1) := by decide +kernel
theorem dX12_init_368 : decode cX12_init 368 = .ok (.bipush 55, 2) := by decide +kernel
theorem dX12_init_370 : decode cX12_init 370 = .ok (.bipush 32, 2) := by decide +kernel
theorem dX12_init_372 : decode cX12_init 372 = .ok (.bastore, 1) := by decide +kernel
theorem dX12_init_373 : decode cX12_init 373 = .ok (.dup, 1) := by decide +kernel
theorem dX12_init_374 : decode cX12_init 374 = .ok (.bipush 56, 2) := by decide +kernel
theorem dX12_init_376 : decode cX12_init 376 = .ok (.bipush 108, 2) := by decide +kernel
theorem dX12_init_378 : decode cX12_init 378 = .ok (.bastore, 1) := by decide +kernel
theorem dX12_init_379 : decode cX12_init 379 = .ok (.dup, 1) := by decide +kernel
theorem dX12_init_380 : decode cX12_init 380 = .ok (.bipush 57, 2) := by decide +kernel
theorem dX12_init_382 : decode cX12_init 382 = .ok (.bipush 97, 2) := by decide +kernel
theorem dX12_init_384 : decode cX12_init 384 = .ok (.bastore, 1) := by decide +kernel
theorem dX12_init_385 : decode cX12_init 385 = .ok (.dup, 1) := by decide +kernel
theorem dX12_init_386 : decode cX12_init 386 = .ok (.bipush 58, 2) := by decide +kernel
theorem dX12_init_388 : decode cX12_init 388 = .ok (.bipush 116, 2) := by decide +kernel
theorem dX12_init_390 : decode cX12_init 390 = .ok (.bastore, 1) := by decide +kernel
theorem dX12_init_391 : decode cX12_init 391 = .ok (.dup, 1) := by decide +kernel
theorem dX12_init_392 : decode cX12_init 392 = .ok (.bipush 59, 2) := by decide +kernel
theorem dX12_init_394 : decode cX12_init 394 = .ok (.bipush 101, 2) := by decide +kernel
theorem dX12_init_396 : decode cX12_init 396 = .ok (.bastore, 1) := by decide +kernel
theorem dX12_init_397 : decode cX12_init 397 = .ok (.dup, 1) := by decide +kernel
theorem dX12_init_398 : decode cX12_init 398 = .ok (.bipush 60, 2) := by decide +kernel
theorem dX12_init_400 : decode cX12_init 400 = .ok (.bipush 114, 2) := by decide +kernel
theorem dX12_init_402 : decode cX12_init 402 = .ok (.bastore, 1) := by decide +kernel
theorem dX12_init_403 : decode cX12_init 403 = .ok (.dup, 1) := by decide +kernel
theorem dX12_init_404 : decode cX12_init 404 = .ok (.bipush 61, 2) := by decide +kernel
theorem dX12_init_406 : decode cX12_init 406 = .ok (.bipush 32, 2) := by decide +kernel
theorem dX12_init_408 : decode cX12_init 408 = .ok (.bastore, 1) := by decide +kernel
theorem dX12_init_409 : decode cX12_init 409 = .ok (.dup, 1) := by decide +kernel
theorem dX12_init_410 : decode cX12_init 410 = .ok (.bipush 62, 2) := by decide +kernel
theorem dX12_init_412 : decode cX12_init 412 = .ok (.bipush 109, 2) := by decide +kernel
theorem dX12_init_414 : decode cX12_init 414 = .ok (.bastore, 1) := by decide +kernel
theorem dX12_init_415 : decode cX12_init 415 = .ok (.dup, 1) := by decide +kernel
theorem dX12_init_416 : decode cX12_init 416 = .ok (.bipush 63, 2) := by decide +kernel
theorem dX12_init_418 : decode cX12_init 418 = .ok (.bipush 105, 2) := by decide +kernel
theorem dX12_init_420 : decode cX12_init 420 = .ok (.bastore, 1) := by decide +kernel
theorem dX12_init_421 : decode cX12_init 421 = .ok (.dup, 1) := by decide +kernel
theorem dX12_init_422 : decode cX12_init 422 = .ok (.bipush 64, 2) := by decide +kernel
theorem dX12_init_424 : decode cX12_init 424 = .ok (.bipush 110, 2) := by decide +kernel
theorem dX12_init_426 : decode cX12_init 426 = .ok (.bastore, 1) := by decide +kernel
theorem dX12_init_427 : decode cX12_init 427 = .ok (.dup, 1) := by decide +kernel
theorem dX12_init_428 : decode cX12_init 428 = .ok (.bipush 65, 2) := by decide +kernel
theorem dX12_init_430 : decode cX12_init 430 = .ok (.bipush 117, 2) := by decide +kernel
theorem dX12_init_432 : decode cX12_init 432 = .ok (.bastore, 1) := by decide +kernel
theorem dX12_init_433 : decode cX12_init 433 = .ok (.dup, 1) := by decide +kernel
theorem dX12_init_434 : decode cX12_init 434 = .ok (.bipush 66, 2) := by decide +kernel
theorem dX12_init_436 : decode cX12_init 436 = .ok (.bipush 116, 2) := by decide +kernel
theorem dX12_init_438 : decode cX12_init 438 = .ok (.bastore, 1) := by decide +kernel
theorem dX12_init_439 : decode cX12_init 439 = .ok (.dup, 1) := by decide +kernel
theorem dX12_init_440 : decode cX12_init 440 = .ok (.bipush 67, 2) := by decide +kernel
theorem dX12_init_442 : decode cX12_init 442 = .ok (.bipush 101, 2) := by decide +kernel
theorem dX12_init_444 : decode cX12_init 444 = .ok (.bastore, 1) := by decide +kernel
theorem dX12_init_445 : decode cX12_init 445 = .ok (.dup, 1) := by decide +kernel
theorem dX12_init_446 : decode cX12_init 446 = .ok (.bipush 68, 2) := by decide +kernel
theorem dX12_init_448 : decode cX12_init 448 = .ok (.bipush 32, 2) := by decide +kernel
theorem dX12_init_450 : decode cX12_init 450 = .ok (.bastore, 1) := by decide +kernel
theorem dX12_init_451 : decode cX12_init 451 = .ok (.dup, 1) := by decide +kernel
theorem dX12_init_452 : decode cX12_init 452 = .ok (.bipush 69, 2) := by decide +kernel
theorem dX12_init_454 : decode cX12_init 454 = .ok (.bipush 119, 2) := by decide +kernel
theorem dX12_init_456 : decode cX12_init 456 = .ok (.bastore, 1) := by decide +kernel
theorem dX12_init_457 : decode cX12_init 457 = .ok (.dup, 1) := by decide +kernel
theorem dX12_init_458 : decode cX12_init 458 = .ok (.bipush 70, 2) := by decide +kernel
theorem dX12_init_460 : decode cX12_init 460 = .ok (.bipush 105, 2) := by decide +kernel
theorem dX12_init_462 : decode cX12_init 462 = .ok (.bastore, 1) := by decide +kernel
theorem dX12_init_463 : decode cX12_init 463 = .ok (.dup, 1) := by decide +kernel
theorem dX12_init_464 : decode cX12_init 464 = .ok (.bipush 71, 2) := by decide +kernel
theorem dX12_init_466 : decode cX12_init 466 = .ok (.bipush 110, 2) := by decide +kernel
theorem dX12_init_468 : decode cX12_init 468 = .ok (.bastore, 1) := by decide +kernel
theorem dX12_init_469 : decode cX12_init 469 = .ok (.dup, 1) := by decide +kernel
theorem dX12_init_470 : decode cX12_init 470 = .ok (.bipush 72, 2) := by decide +kernel
theorem dX12_init_472 : decode cX12_init 472 = .ok (.bipush 100, 2) := by decide +kernel
theorem dX12_init_474 : decode cX12_init 474 = .ok (.bastore, 1) := by decide +kernel
theorem dX12_init_475 : decode cX12_init 475 = .ok (.dup, 1) := by decide +kernel
theorem dX12_init_476 : decode cX12_init 476 = .ok (.bipush 73, 2) := by decide +kernel
theorem dX12_init_478 : decode cX12_init 478 = .ok (.bipush 32, 2) := by decide +kernel
theorem dX12_init_480 : decode cX12_init 480 = .ok (.bastore, 1) := by decide +kernel
theorem dX12_init_481 : decode cX12_init 481 = .ok (.dup, 1) := by decide +kernel
theorem dX12_init_482 : decode cX12_init 482 = .ok (.bipush 74, 2) := by decide +kernel
theorem dX12_init_484 : decode cX12_init 484 = .ok (.bipush 109, 2) := by decide +kernel
theorem dX12_init_486 : decode cX12_init 486 = .ok (.bastore, 1) := by decide +kernel
theorem dX12_init_487 : decode cX12_init 487 = .ok (.dup, 1) := by decide +kernel
theorem dX12_init_488 : decode cX12_init 488 = .ok (.bipush 75, 2) := by decide +kernel
theorem dX12_init_490 : decode cX12_init 490 = .ok (.bipush 111, 2) := by decide +kernel
theorem dX12_init_492 : decode cX12_init 492 = .ok (.bastore, 1) := by decide +kernel
theorem dX12_init_493 : decode cX12_init 493 = .ok (.dup, 1) := by decide +kernel
theorem dX12_init_494 : decode cX12_init 494 = .ok (.bipush 76, 2) := by decide +kernel
theorem dX12_init_496 : decode cX12_init 496 = .ok (.bipush 111, 2) := by decide +kernel
theorem dX12_init_498 : decode cX12_init 498 = .ok (.bastore, 1) := by decide +kernel
theorem dX12_init_499 : decode cX12_init 499 = .ok (.dup, 1) := by decide +kernel
theorem dX12_init_500 : decode cX12_init 500 = .ok (.bipush 77, 2) := by decide +kernel
theorem dX12_init_502 : decode cX12_init 502 = .ok (.bipush 100, 2) := by decide +kernel
theorem dX12_init_504 : decode cX12_init 504 = .ok (.bastore, 1) := by decide +kernel
theorem dX12_init_505 : decode cX12_init 505 = .ok (.dup, 1) := by decide +kernel
theorem dX12_init_506 : decode cX12_init 506 = .ok (.bipush 78, 2) := by decide +kernel
theorem dX12_init_508 : decode cX12_init 508 = .ok (.bipush 32, 2) := by decide +kernel
theorem dX12_init_510 : decode cX12_init 510 = .ok (.bastore, 1) := by decide +kernel
theorem dX12_init_511 : decode cX12_init 511 = .ok (.dup, 1) := by decide +kernel
theorem dX12_init_512 : decode cX12_init 512 = .ok (.bipush 79, 2) := by decide +kernel
theorem dX12_init_514 : decode cX12_init 514 = .ok (.bipush 108, 2) := by decide +kernel
theorem dX12_init_516 : decode cX12_init 516 = .ok (.bastore, 1) := by decide +kernel
theorem dX12_init_517 : decode cX12_init 517 = .ok (.dup, 1) := by decide +kernel
theorem dX12_init_518 : decode cX12_init 518 = .ok (.bipush 80, 2) := by decide +kernel
theorem dX12_init_520 : decode cX12_init 520 = .ok (.bipush 97, 2) := by decide +kernel
theorem dX12_init_522 : decode cX12_init 522 = .ok (.bastore, 1) := by decide +kernel
theorem dX12_init_523 : decode cX12_init 523 = .ok (.dup, 1) := by decide +kernel
theorem dX12_init_524 : decode cX12_init 524 = .ok (.bipush 81, 2) := by decide +kernel
theorem dX12_init_526 : decode cX12_init 526 = .ok (.bipush 109, 2) := by decide +kernel
theorem dX12_init_528 : decode cX12_init 528 = .ok (.bastore, 1) := by decide +kernel
theorem dX12_init_529 : decode cX12_init 529 = .ok (.dup, 1) := by decide +kernel
theorem dX12_init_530 : decode cX12_init 530 = .ok (.bipush 82, 2) := by decide +kernel
theorem dX12_init_532 : decode cX12_init 532 = .ok (.bipush 112, 2) := by decide +kernel
theorem dX12_init_534 : decode cX12_init 534 = .ok (.bastore, 1) := by decide +kernel
theorem dX12_init_535 : decode cX12_init 535 = .ok (.dup, 1) := by decide +kernel
theorem dX12_init_536 : decode cX12_init 536 = .ok (.bipush 83, 2) := by decide +kernel
theorem dX12_init_538 : decode cX12_init 538 = .ok (.bipush 115, 2) := by decide +kernel
theorem dX12_init_540 : decode cX12_init 540 = .ok (.bastore, 1) := by decide +kernel
theorem dX12_init_541 : decode cX12_init 541 = .ok (.dup, 1) := by decide +kernel
theorem dX12_init_542 : decode cX12_init 542 = .ok (.bipush 84, 2) := by decide +kernel
theorem dX12_init_544 : decode cX12_init 544 = .ok (.bipush 32, 2) := by decide +kernel
theorem dX12_init_546 : decode cX12_init 546 = .ok (.bastore, 1) := by decide +kernel
theorem dX12_init_547 : decode cX12_init 547 = .ok (.dup, 1) := by decide +kernel
theorem dX12_init_548 : decode cX12_init 548 = .ok (.bipush 85, 2) := by decide +kernel
theorem dX12_init_550 : decode cX12_init 550 = .ok (.bipush 115, 2) := by decide +kernel
theorem dX12_init_552 : decode cX12_init 552 = .ok (.bastore, 1) := by decide +kernel
theorem dX12_init_553 : decode cX12_init 553 = .ok (.dup, 1) := by decide +kernel
theorem dX12_init_554 : decode cX12_init 554 = .ok (.bipush 86, 2) := by decide +kernel
theorem dX12_init_556 : decode cX12_init 556 = .ok (.bipush 119, 2) := by decide +kernel
theorem dX12_init_558 : decode cX12_init 558 = .ok (.bastore, 1) := by decide +kernel
theorem dX12_init_559 : decode cX12_init 559 = .ok (.dup, 1) := by decide +kernel
theorem dX12_init_560 : decode cX12_init 560 = .ok (.bipush 87, 2) := by decide +kernel
theorem dX12_init_562 : decode cX12_init 562 = .ok (.bipush 105, 2) := by decide +kernel
theorem dX12_init_564 : decode cX12_init 564 = .ok (.bastore, 1) := by decide +kernel
theorem dX12_init_565 : decode cX12_init 565 = .ok (.dup, 1) := by decide +kernel
theorem dX12_init_566 : decode cX12_init 566 = .ok (.bipush 88, 2) := by decide +kernel
theorem dX12_init_568 : decode cX12_init 568 = .ok (.bipush 116, 2) := by decide +kernel
theorem dX12_init_570 : decode cX12_init 570 = .ok (.bastore, 1) := by decide +kernel
theorem dX12_init_571 : decode cX12_init 571 = .ok (.dup, 1) := by decide +kernel
theorem dX12_init_572 : decode cX12_init 572 = .ok (.bipush 89, 2) := by decide +kernel
theorem dX12_init_574 : decode cX12_init 574 = .ok (.bipush 99, 2) := by decide +kernel
theorem dX12_init_576 : decode cX12_init 576 = .ok (.bastore, 1) := by decide +kernel
theorem dX12_init_577 : decode cX12_init 577 = .ok (.dup, 1) := by decide +kernel
theorem dX12_init_578 : decode cX12_init 578 = .ok (.bipush 90, 2) := by decide +kernel
theorem dX12_init_580 : decode cX12_init 580 = .ok (.bipush 104, 2) := by decide +kernel
theorem dX12_init_582 : decode cX12_init 582 = .ok (.bastore, 1) := by decide +kernel
theorem dX12_init_583 : decode cX12_init 583 = .ok (.dup, 1) := by decide +kernel
theorem dX12_init_584 : decode cX12_init 584 = .ok (.bipush 91, 2) := by decide +kernel
theorem dX12_init_586 : decode cX12_init 586 = .ok (.bipush 101, 2) := by decide +kernel
theorem dX12_init_588 : decode cX12_init 588 = .ok (.bastore, 1) := by decide +kernel
theorem dX12_init_589 : decode cX12_init 589 = .ok (.dup, 1) := by decide +kernel
theorem dX12_init_590 : decode cX12_init 590 = .ok (.bipush 92, 2) := by decide +kernel
theorem dX12_init_592 : decode cX12_init 592 = .ok (.bipush 115, 2) := by decide +kernel
theorem dX12_init_594 : decode cX12_init 594 = .ok (.bastore, 1) := by decide +kernel
theorem dX12_init_595 : decode cX12_init 595 = .ok (.dup, 1) := by decide +kernel
theorem dX12_init_596 : decode cX12_init 596 = .ok (.bipush 93, 2) := by decide +kernel
theorem dX12_init_598 : decode cX12_init 598 = .ok (.bipush 32, 2) := by decide +kernel
theorem dX12_init_600 : decode cX12_init 600 = .ok (.bastore, 1) := by decide +kernel
theorem dX12_init_601 : decode cX12_init 601 = .ok (.dup, 1) := by decide +kernel
theorem dX12_init_602 : decode cX12_init 602 = .ok (.bipush 94, 2) := by decide +kernel
theorem dX12_init_604 : decode cX12_init 604 = .ok (.bipush 108, 2) := by decide +kernel
theorem dX12_init_606 : decode cX12_init 606 = .ok (.bastore, 1) := by decide +kernel
theorem dX12_init_607 : decode cX12_init 607 = .ok (.dup, 1) := by decide +kernel
theorem dX12_init_608 : decode cX12_init 608 = .ok (.bipush 95, 2) := by decide +kernel
theorem dX12_init_610 : decode cX12_init 610 = .ok (.bipush 97, 2) := by decide +kernel
theorem dX12_init_612 : decode cX12_init 612 = .ok (.bastore, 1) := by decide +kernel
theorem dX12_init_613 : decode cX12_init 613 = .ok (.dup, 1) := by decide +kernel
theorem dX12_init_614 : decode cX12_init 614 = .ok (.bipush 96, 2) := by decide +kernel
theorem dX12_init_616 : decode cX12_init 616 = .ok (.bipush 115, 2) := by decide +kernel
theorem dX12_init_618 : decode cX12_init 618 = .ok (.bastore, 1) := by decide +kernel
theorem dX12_init_619 : decode cX12_init 619 = .ok (.dup, 1) := by decide +kernel
theorem dX12_init_620 : decode cX12_init 620 = .ok (.bipush 97, 2) := by decide +kernel
theorem dX12_init_622 : decode cX12_init 622 = .ok (.bipush 116, 2) := by decide +kernel
theorem dX12_init_624 : decode cX12_init 624 = .ok (.bastore, 1) := by decide +kernel
theorem dX12_init_625 : decode cX12_init 625 = .ok (.dup, 1) := by decide +kernel
theorem dX12_init_626 : decode cX12_init 626 = .ok (.bipush 98, 2) := by decide +kernel
theorem dX12_init_628 : decode cX12_init 628 = .ok (.bipush 32, 2) := by decide +kernel
theorem dX12_init_630 : decode cX12_init 630 = .ok (.bastore, 1) := by decide +kernel
theorem dX12_init_631 : decode cX12_init 631 = .ok (.dup, 1) := by decide +kernel
theorem dX12_init_632 : decode cX12_init 632 = .ok (.bipush 99, 2) := by decide +kernel
theorem dX12_init_634 : decode cX12_init 634 = .ok (.bipush 100, 2) := by decide +kernel
theorem dX12_init_636 : decode cX12_init 636 = .ok (.bastore, 1) := by decide +kernel
theorem dX12_init_637 : decode cX12_init 637 = .ok (.dup, 1) := by decide +kernel
theorem dX12_init_638 : decode cX12_init 638 = .ok (.bipush 100, 2) := by decide +kernel
theorem dX12_init_640 : decode cX12_init 640 = .ok (.bipush 111, 2) := by decide +kernel
theorem dX12_init_642 : decode cX12_init 642 = .ok (.bastore, 1) := by decide +kernel
theorem dX12_init_643 : decode cX12_init 643 = .ok (.dup, 1) := by decide +kernel
theorem dX12_init_644 : decode cX12_init 644 = .ok (.bipush 101, 2) := by decide +kernel
theorem dX12_init_646 : decode cX12_init 646 = .ok (.bipush 110, 2) := by decide +kernel
theorem dX12_init_648 : decode cX12_init 648 = .ok (.bastore, 1) := by decide +kernel
theorem dX12_init_649 : decode cX12_init 649 = .ok (.dup, 1) := by decide +kernel
theorem dX12_init_650 : decode cX12_init 650 = .ok (.bipush 102, 2) := by decide +kernel
theorem dX12_init_652 : decode cX12_init 652 = .ok (.bipush 101, 2) := by decide +kernel
theorem dX12_init_654 : decode cX12_init 654 = .ok (.bastore, 1) := by decide +kernel
theorem dX12_init_655 : decode cX12_init 655 = .ok (.dup, 1) := by decide +kernel
theorem dX12_init_656 : decode cX12_init 656 = .ok (.bipush 103, 2) := by decide +kernel
theorem dX12_init_658 : decode cX12_init 658 = .ok (.bipush 32, 2) := by decide +kernel
theorem dX12_init_660 : decode cX12_init 660 = .ok (.bastore, 1) := by decide +kernel
theorem dX12_init_661 : decode cX12_init 661 = .ok (.dup, 1) := by decide +kernel
theorem dX12_init_662 : decode cX12_init 662 = .ok (.bipush 104, 2) := by decide +kernel
theorem dX12_init_664 : decode cX12_init 664 = .ok (.bipush 114, 2) := by decide +kernel
theorem dX12_init_666 : decode cX12_init 666 = .ok (.bastore, 1) := by decide +kernel
theorem dX12_init_667 : decode cX12_init 667 = .ok (.dup, 1) := by decide +kernel
theorem dX12_init_668 : decode cX12_init 668 = .ok (.bipush 105, 2) := by decide +kernel
theorem dX12_init_670 : decode cX12_init 670 = .ok (.bipush 117, 2) := by decide +kernel
theorem dX12_init_672 : decode cX12_init 672 = .ok (.bastore, 1) := by decide +kernel
theorem dX12_init_673 : decode cX12_init 673 = .ok (.dup, 1) := by decide +kernel
theorem dX12_init_674 : decode cX12_init 674 = .ok (.bipush 106, 2) := by decide +kernel
theorem dX12_init_676 : decode cX12_init 676 = .ok (.bipush 110, 2) := by decide +kernel
theorem dX12_init_678 : decode cX12_init 678 = .ok (.bastore, 1) := by decide +kernel
theorem dX12_init_679 : decode cX12_init 679 = .ok (.dup, 1) := by decide +kernel
theorem dX12_init_680 : decode cX12_init 680 = .ok (.bipush 107, 2) := by decide +kernel
theorem dX12_init_682 : decode cX12_init 682 = .ok (.bipush 32, 2) := by decide +kernel
theorem dX12_init_684 : decode cX12_init 684 = .ok (.bastore, 1) := by decide +kernel
theorem dX12_init_685 : decode cX12_init 685 = .ok (.dup, 1) := by decide +kernel
theorem dX12_init_686 : decode cX12_init 686 = .ok (.bipush 108, 2) := by decide +kernel
theorem dX12_init_688 : decode cX12_init 688 = .ok (.bipush 108, 2) := by decide +kernel
theorem dX12_init_690 : decode cX12_init 690 = .ok (.bastore, 1) := by decide +kernel
theorem dX12_init_691 : decode cX12_init 691 = .ok (.dup, 1) := by decide +kernel
theorem dX12_init_692 : decode cX12_init 692 = .ok (.bipush 109, 2) := by decide +kernel
theorem dX12_init_694 : decode cX12_init 694 = .ok (.bipush 105, 2) := by decide +kernel
theorem dX12_init_696 : decode cX12_init 696 = .ok (.bastore, 1) := by decide +kernel
theorem dX12_init_697 : decode cX12_init 697 = .ok (.dup, 1) := by decide +kernel
theorem dX12_init_698 : decode cX12_init 698 = .ok (.bipush 110, 2) := by decide +kernel
theorem dX12_init_700 : decode cX12_init 700 = .ok (.bipush 103, 2) := by decide +kernel
theorem dX12_init_702 : decode cX12_init 702 = .ok (.bastore, 1) := by decide +kernel
theorem dX12_init_703 : decode cX12_init 703 = .ok (.dup, 1) := by decide +kernel
theorem dX12_init_704 : decode cX12_init 704 = .ok (.bipush 111, 2) := by decide +kernel
theorem dX12_init_706 : decode cX12_init 706 = .ok (.bipush 104, 2) := by decide +kernel
theorem dX12_init_708 : decode cX12_init 708 = .ok (.bastore, 1) := by decide +kernel
theorem dX12_init_709 : decode cX12_init 709 = .ok (.dup, 1) := by decide +kernel
theorem dX12_init_710 : decode cX12_init 710 = .ok (.bipush 112, 2) := by decide +kernel
theorem dX12_init_712 : decode cX12_init 712 = .ok (.bipush 116, 2) := by decide +kernel
theorem dX12_init_714 : decode cX12_init 714 = .ok (.bastore, 1) := by decide +kernel
theorem dX12_init_715 : decode cX12_init 715 = .ok (.dup, 1) := by decide +kernel
theorem dX12_init_716 : decode cX12_init 716 = .ok (.bipush 113, 2) := by decide +kernel
theorem dX12_init_718 : decode cX12_init 718 = .ok (.bipush 32, 2) := by decide +kernel
theorem dX12_init_720 : decode cX12_init 720 = .ok (.bastore, 1) := by decide +kernel
theorem dX12_init_721 : decode cX12_init 721 = .ok (.dup, 1) := by decide +kernel
theorem dX12_init_722 : decode cX12_init 722 = .ok (.bipush 114, 2) := by decide +kernel
theorem dX12_init_724 : decode cX12_init 724 = .ok (.bipush 115, 2) := by decide +kernel
theorem dX12_init_726 : decode cX12_init 726 = .ok (.bastore, 1) := by decide +kernel
theorem dX12_init_727 : decode cX12_init 727 = .ok (.dup, 1) := by decide +kernel
theorem dX12_init_728 : decode cX12_init 728 = .ok (.bipush 115, 2) := by decide +kernel
theorem dX12_init_730 : decode cX12_init 730 = .ok (.bipush 110, 2) := by decide +kernel
theorem dX12_init_732 : decode cX12_init 732 = .ok (.bastore, 1) := by decide +kernel
theorem dX12_init_733 : decode cX12_init 733 = .ok (.dup, 1) := by decide +kernel
theorem dX12_init_734 : decode cX12_init 734 = .ok (.bipush 116, 2) := by decide +kernel
theorem dX12_init_736 : decode cX12_init 736 = .ok (.bipush 117, 2) := by decide +kernel
theorem dX12_init_738 : decode cX12_init 738 = .ok (.bastore, 1) := by decide +kernel
theorem dX12_init_739 : decode cX12_init 739 = .ok (.dup, 1) := by decide +kernel
theorem dX12_init_740 : decode cX12_init 740 = .ok (.bipush 117, 2) := by decide +kernel
theorem dX12_init_742 : decode cX12_init 742 = .ok (.bipush 102, 2) := by decide +kernel
theorem dX12_init_744 : decode cX12_init 744 = .ok (.bastore, 1) := by decide +kernel
theorem dX12_init_745 : decode cX12_init 745 = .ok (.dup, 1) := by decide +kernel
theorem dX12_init_746 : decode cX12_init 746 = .ok (.bipush 118, 2) := by decide +kernel
theorem dX12_init_748 : decode cX12_init 748 = .ok (.bipush 102, 2) := by decide +kernel
theorem dX12_init_750 : decode cX12_init 750 = .ok (.bastore, 1) := by decide +kernel
theorem dX12_init_751 : decode cX12_init 751 = .ok (.dup, 1) := by decide +kernel
theorem dX12_init_752 : decode cX12_init 752 = .ok (.bipush 119, 2) := by decide +kernel
theorem dX12_init_754 : decode cX12_init 754 = .ok (.bipush 32, 2) := by decide +kernel
theorem dX12_init_756 : decode cX12_init 756 = .ok (.bastore, 1) := by decide +kernel
theorem dX12_init_757 : decode cX12_init 757 = .ok (.dup, 1) := by decide +kernel
theorem dX12_init_758 : decode cX12_init 758 = .ok (.bipush 120, 2) := by decide +kernel
theorem dX12_init_760 : decode cX12_init 760 = .ok (.bipush 97, 2) := by decide +kernel
theorem dX12_init_762 : decode cX12_init 762 = .ok (.bastore, 1) := by decide +kernel
theorem dX12_init_763 : decode cX12_init 763 = .ok (.dup, 1) := by decide +kernel
theorem dX12_init_764 : decode cX12_init 764 = .ok (.bipush 121, 2) := by decide +kernel
theorem dX12_init_766 : decode cX12_init 766 = .ok (.bipush 116, 2) := by decide +kernel
theorem dX12_init_768 : decode cX12_init 768 = .ok (.bastore, 1) := by decide +kernel
theorem dX12_init_769 : decode cX12_init 769 = .ok (.dup, 1) := by decide +kernel
theorem dX12_init_770 : decode cX12_init 770 = .ok (.bipush 122, 2) := by decide +kernel
theorem dX12_init_772 : decode cX12_init 772 = .ok (.bipush 32, 2) := by decide +kernel
theorem dX12_init_774 : decode cX12_init 774 = .ok (.bastore, 1) := by decide +kernel
theorem dX12_init_775 : decode cX12_init 775 = .ok (.dup, 1) := by decide +kernel
theorem dX12_init_776 : decode cX12_init 776 = .ok (.bipush 123, 2) := by decide +kernel
theorem dX12_init_778 : decode cX12_init 778 = .ok (.bipush 101, 2) := by decide +kernel
theorem dX12_init_780 : decode cX12_init 780 = .ok (.bastore, 1) := by decide +kernel
theorem dX12_init_781 : decode cX12_init 781 = .ok (.dup, 1) := by decide +kernel
theorem dX12_init_782 : decode cX12_init 782 = .ok (.bipush 124, 2) := by decide +kernel
theorem dX12_init_784 : decode cX12_init 784 = .ok (.bipush 97, 2) := by decide +kernel
theorem dX12_init_786 : decode cX12_init 786 = .ok (.bastore, 1) := by decide +kernel
theorem dX12_init_787 : decode cX12_init 787 = .ok (.dup, 1) := by decide +kernel
theorem dX12_init_788 : decode cX12_init 788 = .ok (.bipush 125, 2) := by decide +kernel
theorem dX12_init_790 : decode cX12_init 790 = .ok (.bipush 99, 2) := by decide +kernel
theorem dX12_init_792 : decode cX12_init 792 = .ok (.bastore, 1) := by decide +kernel
theorem dX12_init_793 : decode cX12_init 793 = .ok (.dup, 1) := by decide +kernel
theorem dX12_init_794 : decode cX12_init 794 = .ok (.bipush 126, 2) := by decide +kernel
theorem dX12_init_796 : decode cX12_init 796 = .ok (.bipush 104, 2) := by decide +kernel
theorem dX12_init_798 : decode cX12_init 798 = .ok (.bastore, 1) := by decide +kernel
theorem dX12_init_799 : decode cX12_init 799 = .ok (.dup, 1) := by decide +kernel
theorem dX12_init_800 : decode cX12_init 800 = .ok (.bipush 127, 2) := by decide +kernel
theorem dX12_init_802 : decode cX12_init 802 = .ok (.bipush 32, 2) := by decide +kernel
theorem dX12_init_804 : decode cX12_init 804 = .ok (.bastore, 1) := by decide +kernel
theorem dX12_init_805 : decode cX12_init 805 = .ok (.dup, 1) := by decide +kernel
theorem dX12_init_806 : decode cX12_init 806 = .ok (.sipush 128, 3) := by decide +kernel
theorem dX12_init_809 : decode cX12_init 809 = .ok (.bipush 116, 2) := by decide +kernel
theorem dX12_init_811 : decode cX12_init 811 = .ok (.bastore, 1) := by decide +kernel
theorem dX12_init_812 : decode cX12_init 812 = .ok (.dup, 1) := by decide +kernel
theorem dX12_init_813 : decode cX12_init 813 = .ok (.sipush 129, 3) := by decide +kernel
theorem dX12_init_816 : decode cX12_init 816 = .ok (.bipush 105, 2) := by decide +kernel
theorem dX12_init_818 : decode cX12_init 818 = .ok (.bastore, 1) := by decide +kernel
theorem dX12_init_819 : decode cX12_init 819 = .ok (.dup, 1) := by decide +kernel
theorem dX12_init_820 : decode cX12_init 820 = .ok (.sipush 130, 3) := by decide +kernel
theorem dX12_init_823 : decode cX12_init 823 = .ok (.bipush 109, 2) := by decide +kernel
theorem dX12_init_825 : decode cX12_init 825 = .ok (.bastore, 1) := by decide +kernel
theorem dX12_init_826 : decode cX12_init 826 = .ok (.dup, 1) := by decide +kernel
theorem dX12_init_827 : decode cX12_init 827 = .ok (.sipush 131, 3) := by decide +kernel
theorem dX12_init_830 : decode cX12_init 830 = .ok (.bipush 101, 2) := by decide +kernel
theorem dX12_init_832 : decode cX12_init 832 = .ok (.bastore, 1) := by decide +kernel
theorem dX12_init_833 : decode cX12_init 833 = .ok (.dup, 1) := by decide +kernel
theorem dX12_init_834 : decode cX12_init 834 = .ok (.sipush 132, 3) := by decide +kernel
theorem dX12_init_837 : decode cX12_init 837 = .ok (.bipush 115, 2) := by decide +kernel
theorem dX12_init_839 : decode cX12_init 839 = .ok (.bastore, 1) := by decide +kernel
theorem dX12_init_840 : decode cX12_init 840 = .ok (.dup, 1) := by decide +kernel
theorem dX12_init_841 : decode cX12_init 841 = .ok (.sipush 133, 3) := by decide +kernel
theorem dX12_init_844 : decode cX12_init 844 = .ok (.bipush 32, 2) := by decide +kernel
theorem dX12_init_846 : decode cX12_init 846 = .ok (.bastore, 1) := by decide +kernel
theorem dX12_init_847 : decode cX12_init 847 = .ok (.putfield 30, 3) := by decide +kernel
theorem dX12_init_850 : decode cX12_init 850 = .ok (.aload_n 0, 1) := by decide +kernel
theorem dX12_init_851 : decode cX12_init 851 = .ok (.sipush 400, 3) := by decide +kernel
theorem dX12_init_854 : decode cX12_init 854 = .ok (.newarray .byte, 2) := by decide +kernel
theorem dX12_init_856 : decode cX12_init 856 = .ok (.putfield 34, 3) := by decide +kernel
theorem dX12_init_859 : decode cX12_init 859 = .ok (.aload_n 0, 1) := by decide +kernel
theorem dX12_init_860 : decode cX12_init 860 = .ok (.iconst 5, 1) := by decide +kernel
theorem dX12_init_861 : decode cX12_init 861 = .ok (.newarray .int, 2) := by decide +kernel
theorem dX12_init_863 : decode cX12_init 863 = .ok (.putfield 37, 3) := by decide +kernel
theorem dX12_init_866 : decode cX12_init 866 = .ok (.aload_n 0, 1) := by decide +kernel
theorem dX12_init_867 : decode cX12_init 867 = .ok (.iconst (-1), 1) := by decide +kernel
theorem dX12_init_868 : decode cX12_init 868 = .ok (.putfield 40, 3) := by decide +kernel
theorem dX12_init_871 : decode cX12_init 871 = .ok (.aload_n 0, 1) := by decide +kernel
theorem dX12_init_872 : decode cX12_init 872 = .ok (.sipush 401, 3) := by decide +kernel
theorem dX12_init_875 : decode cX12_init 875 = .ok (.newarray .int, 2) := by decide +kernel
theorem dX12_init_877 : decode cX12_init 877 = .ok (.putfield 43, 3) := by decide +kernel
theorem dX12_init_880 : decode cX12_init 880 = .ok (.aload_n 0, 1) := by decide +kernel
theorem dX12_init_881 : decode cX12_init 881 = .ok (.sipush 401, 3) := by decide +kernel
theorem dX12_init_884 : decode cX12_init 884 = .ok (.newarray .int, 2) := by decide +kernel
theorem dX12_init_886 : decode cX12_init 886 = .ok (.putfield 46, 3) := by decide +kernel
theorem dX12_init_889 : decode cX12_init 889 = .ok (.aload_n 0, 1) := by decide +kernel
theorem dX12_init_890 : decode cX12_init 890 = .ok (.sipush 401, 3) := by decide +kernel
theorem dX12_init_893 : decode cX12_init 893 = .ok (.newarray .int, 2) := by decide +kernel
theorem dX12_init_895 : decode cX12_init 895 = .ok (.putfield 49, 3) := by decide +kernel
theorem dX12_init_898 : decode cX12_init 898 = .ok (.aload_n 0, 1) := by decide +kernel
theorem dX12_init_899 : decode cX12_init 899 = .ok (.bipush 8, 2) := by decide +kernel
theorem dX12_init_901 : decode cX12_init 901 = .ok (.newarray .int, 2) := by decide +kernel
theorem dX12_init_903 : decode cX12_init 903 = .ok (.putfield 52, 3) := by decide +kernel
theorem dX12_init_906 : decode cX12_init 906 = .ok (.aload_n 0, 1) := by decide +kernel
theorem dX12_init_907 : decode cX12_init 907 = .ok (.iconst 5, 1) := by decide +kernel
theorem dX12_init_908 : decode cX12_init 908 = .ok (.newarray .int, 2) := by decide +kernel
theorem dX12_init_910 : decode cX12_init 910 = .ok (.putfield 55, 3) := by decide +kernel
theorem dX12_init_913 : decode cX12_init 913 = .ok (.aload_n 0, 1) := by decide +kernel
theorem dX12_init_914 : decode cX12_init 914 = .ok (.ldc 58, 2) := by decide +kernel
theorem dX12_init_916 : decode cX12_init 916 = .ok (.newarray .byte, 2) := by decide +kernel
theorem dX12_init_918 : decode cX12_init 918 = .ok (.putfield 59, 3) := by decide +kernel
theorem dX12_init_921 : decode cX12_init 921 = .ok (.aload_n 0, 1) := by decide +kernel
theorem dX12_init_922 : decode cX12_init 922 = .ok (.sipush 7920, 3) := by decide +kernel
theorem dX12_init_925 : decode cX12_init 925 = .ok (.newarray .byte, 2) := by decide +kernel
theorem dX12_init_927 : decode cX12_init 927 = .ok (.putfield 62, 3) := by decide +kernel
theorem dX12_init_930 : decode cX12_init 930 = .ok (.aload_n 0, 1) := by decide +kernel
theorem dX12_init_931 : decode cX12_init 931 = .ok (.sipush 7200, 3) := by decide +kernel
theorem dX12_init_934 : decode cX12_init 934 = .ok (.newarray .byte, 2) := by decide +kernel
theorem dX12_init_936 : decode cX12_init 936 = .ok (.putfield 65, 3) := by decide +kernel
theorem dX12_init_939 : decode cX12_init 939 = .ok (.aload_n 0, 1) := by decide +kernel
theorem dX12_init_940 : decode cX12_init 940 = .ok (.iconst (-1), 1) := by decide +kernel
theorem dX12_init_941 : decode cX12_init 941 = .ok (.putfield 68, 3) := by decide +kernel
theorem dX12_init_944 : decode cX12_init 944 = .ok (.aload_n 0, 1) := by decide +kernel
theorem dX12_init_945 : decode cX12_init 945 = .ok (.sipush 144, 3) := by decide +kernel
theorem dX12_init_948 : decode cX12_init 948 = .ok (.newarray .int, 2) := by decide +kernel
theorem dX12_init_950 : decode cX12_init 950 = .ok (.putfield 71, 3) := by decide +kernel
theorem dX12_init_953 : decode cX12_init 953 = .ok (.aload_n 0, 1) := by decide +kernel
theorem dX12_init_954 : decode cX12_init 954 = .ok (.sipush 144, 3) := by decide +kernel
theorem dX12_init_957 : decode cX12_init 957 = .ok (.newarray .int, 2) := by decide +kernel
theorem dX12_init_959 : decode cX12_init 959 = .ok (.putfield 74, 3) := by decide +kernel
theorem dX12_init_962 : decode cX12_init 962 = .ok (.aload_n 0, 1) := by decide +kernel
theorem dX12_init_963 : decode cX12_init 963 = .ok (.bipush 10, 2) := by decide +kernel
theorem dX12_init_965 : decode cX12_init 965 = .ok (.newarray .int, 2) := by decide +kernel
theorem dX12_init_967 : decode cX12_init 967 = .ok (.putfield 77, 3) := by decide +kernel
theorem dX12_init_970 : decode cX12_init 970 = .ok (.aload_n 0, 1) := by decide +kernel
theorem dX12_init_971 : decode cX12_init 971 = .ok (.bipush 10, 2) := by decide +kernel
theorem dX12_init_973 : decode cX12_init 973 = .ok (.newarray .int, 2) := by decide +kernel
theorem dX12_init_975 : decode cX12_init 975 = .ok (.putfield 80, 3) := by decide +kernel
theorem dX12_init_978 : decode cX12_init 978 = .ok (.aload_n 0, 1) := by decide +kernel
theorem dX12_init_979 : decode cX12_init 979 = .ok (.bipush 10, 2) := by decide +kernel
theorem dX12_init_981 : decode cX12_init 981 = .ok (.newarray .int, 2) := by decide +kernel
theorem dX12_init_983 : decode cX12_init 983 = .ok (.putfield 83, 3) := by decide +kernel
theorem dX12_init_986 : decode cX12_init 986 = .ok (.aload_n 0, 1) := by decide +kernel
theorem dX12_init_987 : decode cX12_init 987 = .ok (.bipush 10, 2) := by decide +kernel
theorem dX12_init_989 : decode cX12_init 989 = .ok (.newarray .int, 2) := by decide +kernel
theorem dX12_init_991 : decode cX12_init 991 = .ok (.putfield 86, 3) := by decide +kernel
theorem dX12_init_994 : decode cX12_init 994 = .ok (.aload_n 0, 1) := by decide +kernel
theorem dX12_init_995 : decode cX12_init 995 = .ok (.bipush 10, 2) := by decide +kernel
theorem dX12_init_997 : decode cX12_init 997 = .ok (.newarray .int, 2) := by decide +kernel
theorem dX12_init_999 : decode cX12_init 999 = .ok (.putfield 89, 3) := by decide +kernel
theorem dX12_init_1002 : decode cX12_init 1002 = .ok (.aload_n 0, 1) := by decide +kernel
theorem dX12_init_1003 : decode cX12_init 1003 = .ok (.bipush 10, 2) := by decide +kernel
theorem dX12_init_1005 : decode cX12_init 1005 = .ok (.newarray .boolean, 2) := by decide +kernel
theorem dX12_init_1007 : decode cX12_init 1007 = .ok (.putfield 92, 3) := by decide +kernel
theorem dX12_init_1010 : decode cX12_init 1010 = .ok (.aload_n 0, 1) := by decide +kernel
theorem dX12_init_1011 : decode cX12_init 1011 = .ok (.bipush 10, 2) := by decide +kernel
theorem dX12_init_1013 : decode cX12_init 1013 = .ok (.newarray .boolean, 2) := by decide +kernel
theorem dX12_init_1015 : decode cX12_init 1015 = .ok (.putfield 95, 3) := by decide +kernel
theorem dX12_init_1018 : decode cX12_init 1018 = .ok (.aload_n 0, 1) := by decide +kernel
theorem dX12_init_1019 : decode cX12_init 1019 = .ok (.sipush 360, 3) := by decide +kernel
theorem dX12_init_1022 : decode cX12_init 1022 = .ok (.newarray .int, 2) := by decide +kernel
theorem dX12_init_1024 : decode cX12_init 1024 = .ok (.putfield 98, 3) := by decide +kernel
theorem dX12_init_1027 : decode cX12_init 1027 = .ok (.aload_n 0, 1) := by decide +kernel
theorem dX12_init_1028 : decode cX12_init 1028 = .ok (.iconst 3, 1) := by decide +kernel
theorem dX12_init_1029 : decode cX12_init 1029 = .ok (.newarray .int, 2) := by decide +kernel
theorem dX12_init_1031 : decode cX12_init 1031 = .ok (.putfield 101, 3) := by decide +kernel
theorem dX12_init_1034 : decode cX12_init 1034 = .ok (.aload_n 0, 1) := by decide +kernel
theorem dX12_init_1035 : decode cX12_init 1035 = .ok (.sipush 1200, 3) := by decide +kernel
theorem dX12_init_1038 : decode cX12_init 1038 = .ok (.newarray .boolean, 2) := by decide +kernel
theorem dX12_init_1040 : decode cX12_init 1040 = .ok (.putfield 104, 3) := by decide +kernel
theorem dX12_init_1043 : decode cX12_init 1043 = .ok (.aload_n 0, 1) := by decide +kernel
theorem dX12_init_1044 : decode cX12_init 1044 = .ok (.sipush 1200, 3) := by decide +kernel
theorem dX12_init_1047 : decode cX12_init 1047 = .ok (.newarray .int, 2) := by decide +kernel
theorem dX12_init_1049 : decode cX12_init 1049 = .ok (.putfield 107, 3) := by decide +kernel
theorem dX12_init_1052 : decode cX12_init 1052 = .ok (.aload_n 0, 1) := by decide +kernel
theorem dX12_init_1053 : decode cX12_init 1053 = .ok (.sipush 1200, 3) := by decide +kernel
theorem dX12_init_1056 : decode cX12_init 1056 = .ok (.newarray .boolean, 2) := by decide +kernel
theorem dX12_init_1058 : decode cX12_init 1058 = .ok (.putfield 110, 3) := by decide +kernel
theorem dX12_init_1061 : decode cX12_init 1061 = .ok (.aload_n 0, 1) := by decide +kernel
theorem dX12_init_1062 : decode cX12_init 1062 = .ok (.iconst (-1), 1) := by decide +kernel
theorem dX12_init_1063 : decode cX12_init 1063 = .ok (.putfield 113, 3) := by decide +kernel
theorem dX12_init_1066 : decode cX12_init 1066 = .ok (.aload_n 0, 1) := by decide +kernel
theorem dX12_init_1067 : decode cX12_init 1067 = .ok (.sipush 10240, 3) := by decide +kernel
theorem dX12_init_1070 : decode cX12_init 1070 = .ok (.newarray .int, 2) := by decide +kernel
theorem dX12_init_1072 : decode cX12_init 1072 = .ok (.putfield 116, 3) := by decide +kernel
theorem dX12_init_1075 : decode cX12_init 1075 = .ok (.aload_n 0, 1) := by decide +kernel
theorem dX12_init_1076 : decode cX12_init 1076 = .ok (.bipush 120, 2) := by decide +kernel
theorem dX12_init_1078 : decode cX12_init 1078 = .ok (.newarray .int, 2) := by decide +kernel
theorem dX12_init_1080 : decode cX12_init 1080 = .ok (.putfield 119, 3) := by decide +kernel
theorem dX12_init_1083 : decode cX12_init 1083 = .ok (.aload_n 0, 1) := by decide +kernel
theorem dX12_init_1084 : decode cX12_init 1084 = .ok (.bipush 120, 2) := by decide +kernel
theorem dX12_init_1086 : decode cX12_init 1086 = .ok (.newarray .int, 2) := by decide +kernel
theorem dX12_init_1088 : decode cX12_init 1088 = .ok (.putfield 122, 3) := by decide +kernel
theorem dX12_init_1091 : decode cX12_init 1091 = .ok (.aload_n 0, 1) := by decide +kernel
theorem dX12_init_1092 : decode cX12_init 1092 = .ok (.iconst 3, 1) := by decide +kernel
theorem dX12_init_1093 : decode cX12_init 1093 = .ok (.newarray .int, 2) := by decide +kernel
theorem dX12_init_1095 : decode cX12_init 1095 = .ok (.putfield 125, 3) := by decide +kernel
theorem dX12_init_1098 : decode cX12_init 1098 = .ok (.aload_n 0, 1) := by decide +kernel
theorem dX12_init_1099 : decode cX12_init 1099 = .ok (.iconst 3, 1) := by decide +kernel
theorem dX12_init_1100 : decode cX12_init 1100 = .ok (.newarray .int, 2) := by decide +kernel
theorem dX12_init_1102 : decode cX12_init 1102 = .ok (.putfield 128, 3) := by decide +kernel
theorem dX12_init_1105 : decode cX12_init 1105 = .ok (.aload_n 0, 1) := by decide +kernel
theorem dX12_init_1106 : decode cX12_init 1106 = .ok (.bipush 6, 2) := by decide +kernel
theorem dX12_init_1108 : decode cX12_init 1108 = .ok (.newarray .int, 2) := by decide +kernel
theorem dX12_init_1110 : decode cX12_init 1110 = .ok (.putfield 131, 3) := by decide +kernel
theorem dX12_init_1113 : decode cX12_init 1113 = .ok (.aload_n 0, 1) := by decide +kernel
theorem dX12_init_1114 : decode cX12_init 1114 = .ok (.bipush 6, 2) := by decide +kernel
theorem dX12_init_1116 : decode cX12_init 1116 = .ok (.newarray .int, 2) := by decide +kernel
theorem dX12_init_1118 : decode cX12_init 1118 = .ok (.putfield 134, 3) := by decide +kernel
theorem dX12_init_1121 : decode cX12_init 1121 = .ok (.aload_n 0, 1) := by decide +kernel
theorem dX12_init_1122 : decode cX12_init 1122 = .ok (.bipush 6, 2) := by decide +kernel
theorem dX12_init_1124 : decode cX12_init 1124 = .ok (.newarray .int, 2) := by decide +kernel
theorem dX12_init_1126 : decode cX12_init 1126 = .ok (.putfield 137, 3) := by decide +kernel
theorem dX12_init_1129 : decode cX12_init 1129 = .ok (.aload_n 0, 1) := by decide +kernel
theorem dX12_init_1130 : decode cX12_init 1130 = .ok (.iconst 3, 1) := by decide +kernel
theorem dX12_init_1131 : decode cX12_init 1131 = .ok (.newarray .int, 2) := by decide +kernel
theorem dX12_init_1133 : decode cX12_init 1133 = .ok (.putfield 140, 3) := by decide +kernel
theorem dX12_init_1136 : decode cX12_init 1136 = .ok (.aload_n 0, 1) := by decide +kernel
theorem dX12_init_1137 : decode cX12_init 1137 = .ok (.iconst (-1), 1) := by decide +kernel
theorem dX12_init_1138 : decode cX12_init 1138 = .ok (.putfield 143, 3) := by decide +kernel
theorem dX12_init_1141 : decode cX12_init 1141 = .ok (.aload_n 0, 1) := by decide +kernel
theorem dX12_init_1142 : decode cX12_init 1142 = .ok (.iconst (-1), 1) := by decide +kernel
theorem dX12_init_1143 : decode cX12_init 1143 = .ok (.putfield 146, 3) := by decide +kernel
theorem dX12_init_1146 : decode cX12_init 1146 = .ok (.aload_n 0, 1) := by decide +kernel
theorem dX12_init_1147 : decode cX12_init 1147 = .ok (.iconst 3, 1) := by decide +kernel
theorem dX12_init_1148 : decode cX12_init 1148 = .ok (.newarray .long, 2) := by decide +kernel
theorem dX12_init_1150 : decode cX12_init 1150 = .ok (.putfield 149, 3) := by decide +kernel
theorem dX12_init_1153 : decode cX12_init 1153 = .ok (.aload_n 0, 1) := by decide +kernel
theorem dX12_init_1154 : decode cX12_init 1154 = .ok (.bipush 120, 2) := by decide +kernel
theorem dX12_init_1156 : decode cX12_init 1156 = .ok (.newarray .int, 2) := by decide +kernel
theorem dX12_init_1158 : decode cX12_init 1158 = .ok (.putfield 153, 3) := by decide +kernel
theorem dX12_init_1161 : decode cX12_init 1161 = .ok (.aload_n 0, 1) := by decide +kernel
theorem dX12_init_1162 : decode cX12_init 1162 = .ok (.getfield 20, 3) := by decide +kernel
theorem dX12_init_1165 : decode cX12_init 1165 = .ok (.sipush 243, 3) := by decide +kernel
theorem dX12_init_1168 : decode cX12_init 1168 = .ok (.iconst 3, 1) := by decide +kernel
theorem dX12_init_1169 : decode cX12_init 1169 = .ok (.iastore, 1) := by decide +kernel
theorem dX12_init_1170 : decode cX12_init 1170 = .ok (.aload_n 0, 1) := by decide +kernel
theorem dX12_init_1171 : decode cX12_init 1171 = .ok (.getfield 20, 3) := by decide +kernel
theorem dX12_init_1174 : decode cX12_init 1174 = .ok (.sipush 252, 3) := by decide +kernel
theorem dX12_init_1177 : decode cX12_init 1177 = .ok (.iconst (-1), 1) := by decide +kernel
theorem dX12_init_1178 : decode cX12_init 1178 = .ok (.iastore, 1) := by decide +kernel
theorem dX12_init_1179 : decode cX12_init 1179 = .ok (.return_, 1) := by decide +kernel
set_option maxRecDepth 20000 in
theorem T_X12_init {Q : Option Value → ah_T → Prop} {h : ah_T} (t : Nat) (hk_t : ah_k h t = 12) (ht : (∀ w1, w1 = ah_x h → (∀ h3, h3 = ah_nw h 14 7 → (¬ t = ah_x h) ∧ (∀ h10, h10 = ah_sr h3 t 2 (some w1) → (∀ w14, w14 = ah_x h10 → (∀ h16, h16 = ah_nw h10 14 5860 → (¬ t = ah_x h10) ∧ (∀ h23, h23 = ah_sr h16 t 3 (some w14) → (∀ w27, w27 = ah_x h23 → (∀ h29, h29 = ah_nw h23 14 11720 → (¬ t = ah_x h23) ∧ (∀ h36, h36 = ah_sr h29 t 4 (some w27) → (∀ w40, w40 = ah_x h36 → (∀ h42, h42 = ah_nw h36 16 2 → (¬ t = ah_x h36) ∧ (∀ h49, h49 = ah_sr h42 t 5 (some w40) → (∀ w53, w53 = ah_x h49 → (∀ h55, h55 = ah_nw h49 13 134 → (¬ t = ah_x h49) ∧ (∀ h62, h62 = ah_si h55 w53 (Int32.toNatClampNeg 0) (vp_nar .byte 115) → (∀ h68, h68 = ah_si h62 w53 (Int32.toNatClampNeg 1) (vp_nar .byte 104) → (∀ h74, h74 = ah_si h68 w53 (Int32.toNatClampNeg 2) (vp_nar .byte 117) → (∀ h80, h80 = ah_si h74 w53 (Int32.toNatClampNeg 3) (vp_nar .byte 110) → (∀ h86, h86 = ah_si h80 w53 (Int32.toNatClampNeg 4) (vp_nar .byte 115) → (∀ h92, h92 = ah_si h86 w53 (Int32.toNatClampNeg 5) (vp_nar .byte 32) → (∀ h98, h98 = ah_si h92 w53 (Int32.toNatClampNeg 6) (vp_nar .byte 114) → (∀ h104, h104 = ah_si h98 w53 (Int32.toNatClampNeg 7) (vp_nar .byte 101) → (∀ h110, h110 = ah_si h104 w53 (Int32.toNatClampNeg 8) (vp_nar .byte 97) → (∀ h116, h116 = ah_si h110 w53 (Int32.toNatClampNeg 9) (vp_nar .byte 99) → (∀ h122, h122 = ah_si h116 w53 (Int32.toNatClampNeg 10) (vp_nar .byte 104) → (∀ h128, h128 = ah_si h122 w53 (Int32.toNatClampNeg 11) (vp_nar .byte 101) → (∀ h134, h134 = ah_si h128 w53 (Int32.toNatClampNeg 12) (vp_nar .byte 115) → (∀ h140, h140 = ah_si h134 w53 (Int32.toNatClampNeg 13) (vp_nar .byte 32) → (∀ h146, h146 = ah_si h140 w53 (Int32.toNatClampNeg 14) (vp_nar .byte 100) → (∀ h152, h152 = ah_si h146 w53 (Int32.toNatClampNeg 15) (vp_nar .byte 114) → (∀ h158, h158 = ah_si h152 w53 (Int32.toNatClampNeg 16) (vp_nar .byte 105) → (∀ h164, h164 = ah_si h158 w53 (Int32.toNatClampNeg 17) (vp_nar .byte 110) → (∀ h170, h170 = ah_si h164 w53 (Int32.toNatClampNeg 18) (vp_nar .byte 107) → (∀ h176, h176 = ah_si h170 w53 (Int32.toNatClampNeg 19) (vp_nar .byte 115) → (∀ h182, h182 = ah_si h176 w53 (Int32.toNatClampNeg 20) (vp_nar .byte 32) → (∀ h188, h188 = ah_si h182 w53 (Int32.toNatClampNeg 21) (vp_nar .byte 105) → (∀ h194, h194 = ah_si h188 w53 (Int32.toNatClampNeg 22) (vp_nar .byte 102) → (∀ h200, h200 = ah_si h194 w53 (Int32.toNatClampNeg 23) (vp_nar .byte 32) → (∀ h206, h206 = ah_si h200 w53 (Int32.toNatClampNeg 24) (vp_nar .byte 111) → (∀ h212, h212 = ah_si h206 w53 (Int32.toNatClampNeg 25) (vp_nar .byte 114) → (∀ h218, h218 = ah_si h212 w53 (Int32.toNatClampNeg 26) (vp_nar .byte 32) → (∀ h224, h224 = ah_si h218 w53 (Int32.toNatClampNeg 27) (vp_nar .byte 97) → (∀ h230, h230 = ah_si h224 w53 (Int32.toNatClampNeg 28) (vp_nar .byte 110) → (∀ h236, h236 = ah_si h230 w53 (Int32.toNatClampNeg 29) (vp_nar .byte 100) → (∀ h242, h242 = ah_si h236 w53 (Int32.toNatClampNeg 30) (vp_nar .byte 32) → (∀ h248, h248 = ah_si h242 w53 (Int32.toNatClampNeg 31) (vp_nar .byte 110) → (∀ h254, h254 = ah_si h248 w53 (Int32.toNatClampNeg 32) (vp_nar .byte 111) → (∀ h260, h260 = ah_si h254 w53 (Int32.toNatClampNeg 33) (vp_nar .byte 116) → (∀ h266, h266 = ah_si h260 w53 (Int32.toNatClampNeg 34) (vp_nar .byte 32) → (∀ h272, h272 = ah_si h266 w53 (Int32.toNatClampNeg 35) (vp_nar .byte 108) → (∀ h278, h278 = ah_si h272 w53 (Int32.toNatClampNeg 36) (vp_nar .byte 97) → (∀ h284, h284 = ah_si h278 w53 (Int32.toNatClampNeg 37) (vp_nar .byte 109) → (∀ h290, h290 = ah_si h284 w53 (Int32.toNatClampNeg 38) (vp_nar .byte 112) → (∀ h296, h296 = ah_si h290 w53 (Int32.toNatClampNeg 39) (vp_nar .byte 32) → (∀ h302, h302 = ah_si h296 w53 (Int32.toNatClampNeg 40) (vp_nar .byte 107) → (∀ h308, h308 = ah_si h302 w53 (Int32.toNatClampNeg 41) (vp_nar .byte 105) → (∀ h314, h314 = ah_si h308 w53 (Int32.toNatClampNeg 42) (vp_nar .byte 110) → (∀ h320, h320 = ah_si h314 w53 (Int32.toNatClampNeg 43) (vp_nar .byte 100) → (∀ h326, h326 = ah_si h320 w53 (Int32.toNatClampNeg 44) (vp_nar .byte 32) → (∀ h332, h332 = ah_si h326 w53 (Int32.toNatClampNeg 45) (vp_nar .byte 111) → (∀ h338, h338 = ah_si h332 w53 (Int32.toNatClampNeg 46) (vp_nar .byte 116) → (∀ h344, h344 = ah_si h338 w53 (Int32.toNatClampNeg 47) (vp_nar .byte 104) → (∀ h350, h350 = ah_si h344 w53 (Int32.toNatClampNeg 48) (vp_nar .byte 101) → (∀ h356, h356 = ah_si h350 w53 (Int32.toNatClampNeg 49) (vp_nar .byte 114) → (∀ h362, h362 = ah_si h356 w53 (Int32.toNatClampNeg 50) (vp_nar .byte 32) → (∀ h368, h368 = ah_si h362 w53 (Int32.toNatClampNeg 51) (vp_nar .byte 110) → (∀ h374, h374 = ah_si h368 w53 (Int32.toNatClampNeg 52) (vp_nar .byte 101) → (∀ h380, h380 = ah_si h374 w53 (Int32.toNatClampNeg 53) (vp_nar .byte 97) → (∀ h386, h386 = ah_si h380 w53 (Int32.toNatClampNeg 54) (vp_nar .byte 114) → (∀ h392, h392 = ah_si h386 w53 (Int32.toNatClampNeg 55) (vp_nar .byte 32) → (∀ h398, h398 = ah_si h392 w53 (Int32.toNatClampNeg 56) (vp_nar .byte 108) → (∀ h404, h404 = ah_si h398 w53 (Int32.toNatClampNeg 57) (vp_nar .byte 97) → (∀ h410, h410 = ah_si h404 w53 (Int32.toNatClampNeg 58) (vp_nar .byte 116) → (∀ h416, h416 = ah_si h410 w53 (Int32.toNatClampNeg 59) (vp_nar .byte 101) → (∀ h422, h422 = ah_si h416 w53 (Int32.toNatClampNeg 60) (vp_nar .byte 114) → (∀ h428, h428 = ah_si h422 w53 (Int32.toNatClampNeg 61) (vp_nar .byte 32) → (∀ h434, h434 = ah_si h428 w53 (Int32.toNatClampNeg 62) (vp_nar .byte 109) → (∀ h440, h440 = ah_si h434 w53 (Int32.toNatClampNeg 63) (vp_nar .byte 105) → (∀ h446, h446 = ah_si h440 w53 (Int32.toNatClampNeg 64) (vp_nar .byte 110) → (∀ h452, h452 = ah_si h446 w53 (Int32.toNatClampNeg 65) (vp_nar .byte 117) → (∀ h458, h458 = ah_si h452 w53 (Int32.toNatClampNeg 66) (vp_nar .byte 116) → (∀ h464, h464 = ah_si h458 w53 (Int32.toNatClampNeg 67) (vp_nar .byte 101) → (∀ h470, h470 = ah_si h464 w53 (Int32.toNatClampNeg 68) (vp_nar .byte 32) → (∀ h476, h476 = ah_si h470 w53 (Int32.toNatClampNeg 69) (vp_nar .byte 119) → (∀ h482, h482 = ah_si h476 w53 (Int32.toNatClampNeg 70) (vp_nar .byte 105) → (∀ h488, h488 = ah_si h482 w53 (Int32.toNatClampNeg 71) (vp_nar .byte 110) → (∀ h494, h494 = ah_si h488 w53 (Int32.toNatClampNeg 72) (vp_nar .byte 100) → (∀ h500, h500 = ah_si h494 w53 (Int32.toNatClampNeg 73) (vp_nar .byte 32) → (∀ h506, h506 = ah_si h500 w53 (Int32.toNatClampNeg 74) (vp_nar .byte 109) → (∀ h512, h512 = ah_si h506 w53 (Int32.toNatClampNeg 75) (vp_nar .byte 111) → (∀ h518, h518 = ah_si h512 w53 (Int32.toNatClampNeg 76) (vp_nar .byte 111) → (∀ h524, h524 = ah_si h518 w53 (Int32.toNatClampNeg 77) (vp_nar .byte 100) → (∀ h530, h530 = ah_si h524 w53 (Int32.toNatClampNeg 78) (vp_nar .byte 32) → (∀ h536, h536 = ah_si h530 w53 (Int32.toNatClampNeg 79) (vp_nar .byte 108) → (∀ h542, h542 = ah_si h536 w53 (Int32.toNatClampNeg 80) (vp_nar .byte 97) → (∀ h548, h548 = ah_si h542 w53 (Int32.toNatClampNeg 81) (vp_nar .byte 109) → (∀ h554, h554 = ah_si h548 w53 (Int32.toNatClampNeg 82) (vp_nar .byte 112) → (∀ h560, h560 = ah_si h554 w53 (Int32.toNatClampNeg 83) (vp_nar .byte 115) → (∀ h566, h566 = ah_si h560 w53 (Int32.toNatClampNeg 84) (vp_nar .byte 32) → (∀ h572, h572 = ah_si h566 w53 (Int32.toNatClampNeg 85) (vp_nar .byte 115) → (∀ h578, h578 = ah_si h572 w53 (Int32.toNatClampNeg 86) (vp_nar .byte 119) → (∀ h584, h584 = ah_si h578 w53 (Int32.toNatClampNeg 87) (vp_nar .byte 105) → (∀ h590, h590 = ah_si h584 w53 (Int32.toNatClampNeg 88) (vp_nar .byte 116) → (∀ h596, h596 = ah_si h590 w53 (Int32.toNatClampNeg 89) (vp_nar .byte 99) → (∀ h602, h602 = ah_si h596 w53 (Int32.toNatClampNeg 90) (vp_nar .byte 104) → (∀ h608, h608 = ah_si h602 w53 (Int32.toNatClampNeg 91) (vp_nar .byte 101) → (∀ h614, h614 = ah_si h608 w53 (Int32.toNatClampNeg 92) (vp_nar .byte 115) → (∀ h620, h620 = ah_si h614 w53 (Int32.toNatClampNeg 93) (vp_nar .byte 32) → (∀ h626, h626 = ah_si h620 w53 (Int32.toNatClampNeg 94) (vp_nar .byte 108) → (∀ h632, h632 = ah_si h626 w53 (Int32.toNatClampNeg 95) (vp_nar .byte 97) → (∀ h638, h638 = ah_si h632 w53 (Int32.toNatClampNeg 96) (vp_nar .byte 115) → (∀ h644, h644 = ah_si h638 w53 (Int32.toNatClampNeg 97) (vp_nar .byte 116) → (∀ h650, h650 = ah_si h644 w53 (Int32.toNatClampNeg 98) (vp_nar .byte 32) → (∀ h656, h656 = ah_si h650 w53 (Int32.toNatClampNeg 99) (vp_nar .byte 100) → (∀ h662, h662 = ah_si h656 w53 (Int32.toNatClampNeg 100) (vp_nar .byte 111) → (∀ h668, h668 = ah_si h662 w53 (Int32.toNatClampNeg 101) (vp_nar .byte 110) → (∀ h674, h674 = ah_si h668 w53 (Int32.toNatClampNeg 102) (vp_nar .byte 101) → (∀ h680, h680 = ah_si h674 w53 (Int32.toNatClampNeg 103) (vp_nar .byte 32) → (∀ h686, h686 = ah_si h680 w53 (Int32.toNatClampNeg 104) (vp_nar .byte 114) → (∀ h692, h692 = ah_si h686 w53 (Int32.toNatClampNeg 105) (vp_nar .byte 117) → (∀ h698, h698 = ah_si h692 w53 (Int32.toNatClampNeg 106) (vp_nar .byte 110) → (∀ h704, h704 = ah_si h698 w53 (Int32.toNatClampNeg 107) (vp_nar .byte 32) → (∀ h710, h710 = ah_si h704 w53 (Int32.toNatClampNeg 108) (vp_nar .byte 108) → (∀ h716, h716 = ah_si h710 w53 (Int32.toNatClampNeg 109) (vp_nar .byte 105) → (∀ h722, h722 = ah_si h716 w53 (Int32.toNatClampNeg 110) (vp_nar .byte 103) → (∀ h728, h728 = ah_si h722 w53 (Int32.toNatClampNeg 111) (vp_nar .byte 104) → (∀ h734, h734 = ah_si h728 w53 (Int32.toNatClampNeg 112) (vp_nar .byte 116) → (∀ h740, h740 = ah_si h734 w53 (Int32.toNatClampNeg 113) (vp_nar .byte 32) → (∀ h746, h746 = ah_si h740 w53 (Int32.toNatClampNeg 114) (vp_nar .byte 115) → (∀ h752, h752 = ah_si h746 w53 (Int32.toNatClampNeg 115) (vp_nar .byte 110) → (∀ h758, h758 = ah_si h752 w53 (Int32.toNatClampNeg 116) (vp_nar .byte 117) → (∀ h764, h764 = ah_si h758 w53 (Int32.toNatClampNeg 117) (vp_nar .byte 102) → (∀ h770, h770 = ah_si h764 w53 (Int32.toNatClampNeg 118) (vp_nar .byte 102) → (∀ h776, h776 = ah_si h770 w53 (Int32.toNatClampNeg 119) (vp_nar .byte 32) → (∀ h782, h782 = ah_si h776 w53 (Int32.toNatClampNeg 120) (vp_nar .byte 97) → (∀ h788, h788 = ah_si h782 w53 (Int32.toNatClampNeg 121) (vp_nar .byte 116) → (∀ h794, h794 = ah_si h788 w53 (Int32.toNatClampNeg 122) (vp_nar .byte 32) → (∀ h800, h800 = ah_si h794 w53 (Int32.toNatClampNeg 123) (vp_nar .byte 101) → (∀ h806, h806 = ah_si h800 w53 (Int32.toNatClampNeg 124) (vp_nar .byte 97) → (∀ h812, h812 = ah_si h806 w53 (Int32.toNatClampNeg 125) (vp_nar .byte 99) → (∀ h818, h818 = ah_si h812 w53 (Int32.toNatClampNeg 126) (vp_nar .byte 104) → (∀ h824, h824 = ah_si h818 w53 (Int32.toNatClampNeg 127) (vp_nar .byte 32) → (∀ h830, h830 = ah_si h824 w53 (Int32.toNatClampNeg 128) (vp_nar .byte 116) → (∀ h836, h836 = ah_si h830 w53 (Int32.toNatClampNeg 129) (vp_nar .byte 105) → (∀ h842, h842 = ah_si h836 w53 (Int32.toNatClampNeg 130) (vp_nar .byte 109) → (∀ h848, h848 = ah_si h842 w53 (Int32.toNatClampNeg 131) (vp_nar .byte 101) → (∀ h854, h854 = ah_si h848 w53 (Int32.toNatClampNeg 132) (vp_nar .byte 115) → (∀ h860, h860 = ah_si h854 w53 (Int32.toNatClampNeg 133) (vp_nar .byte 32) → (∀ h866, h866 = ah_sr h860 t 7 (some w53) → (∀ w870, w870 = ah_x h866 → (∀ h872, h872 = ah_nw h866 13 400 → (¬ t = ah_x h866) ∧ (∀ h879, h879 = ah_sr h872 t 9 (some w870) → (∀ w883, w883 = ah_x h879 → (∀ h885, h885 = ah_nw h879 14 5 → (¬ t = ah_x h879) ∧ (∀ h892, h892 = ah_sr h885 t 10 (some w883) → (∀ h896, h896 = ah_si h892 t 12 (-1) → (∀ w900, w900 = ah_x h896 → (∀ h902, h902 = ah_nw h896 14 401 → (¬ t = ah_x h896) ∧ (∀ h909, h909 = ah_sr h902 t 13 (some w900) → (∀ w913, w913 = ah_x h909 → (∀ h915, h915 = ah_nw h909 14 401 → (¬ t = ah_x h909) ∧ (∀ h922, h922 = ah_sr h915 t 14 (some w913) → (∀ w926, w926 = ah_x h922 → (∀ h928, h928 = ah_nw h922 14 401 → (¬ t = ah_x h922) ∧ (∀ h935, h935 = ah_sr h928 t 15 (some w926) → (∀ w939, w939 = ah_x h935 → (∀ h941, h941 = ah_nw h935 14 8 → (¬ t = ah_x h935) ∧ (∀ h948, h948 = ah_sr h941 t 24 (some w939) → (∀ w952, w952 = ah_x h948 → (∀ h954, h954 = ah_nw h948 14 5 → (¬ t = ah_x h948) ∧ (∀ h961, h961 = ah_sr h954 t 25 (some w952) → (∀ w965, w965 = ah_x h961 → (∀ h967, h967 = ah_nw h961 13 1123200 → (¬ t = ah_x h961) ∧ (∀ h974, h974 = ah_sr h967 t 26 (some w965) → (∀ w978, w978 = ah_x h974 → (∀ h980, h980 = ah_nw h974 13 7920 → (¬ t = ah_x h974) ∧ (∀ h987, h987 = ah_sr h980 t 27 (some w978) → (∀ w991, w991 = ah_x h987 → (∀ h993, h993 = ah_nw h987 13 7200 → (¬ t = ah_x h987) ∧ (∀ h1000, h1000 = ah_sr h993 t 28 (some w991) → (∀ h1004, h1004 = ah_si h1000 t 29 (-1) → (∀ w1008, w1008 = ah_x h1004 → (∀ h1010, h1010 = ah_nw h1004 14 144 → (¬ t = ah_x h1004) ∧ (∀ h1017, h1017 = ah_sr h1010 t 30 (some w1008) → (∀ w1021, w1021 = ah_x h1017 → (∀ h1023, h1023 = ah_nw h1017 14 144 → (¬ t = ah_x h1017) ∧ (∀ h1030, h1030 = ah_sr h1023 t 31 (some w1021) → (∀ w1034, w1034 = ah_x h1030 → (∀ h1036, h1036 = ah_nw h1030 14 10 → (¬ t = ah_x h1030) ∧ (∀ h1043, h1043 = ah_sr h1036 t 32 (some w1034) → (∀ w1047, w1047 = ah_x h1043 → (∀ h1049, h1049 = ah_nw h1043 14 10 → (¬ t = ah_x h1043) ∧ (∀ h1056, h1056 = ah_sr h1049 t 33 (some w1047) → (∀ w1060, w1060 = ah_x h1056 → (∀ h1062, h1062 = ah_nw h1056 14 10 → (¬ t = ah_x h1056) ∧ (∀ h1069, h1069 = ah_sr h1062 t 34 (some w1060) → (∀ w1073, w1073 = ah_x h1069 → (∀ h1075, h1075 = ah_nw h1069 14 10 → (¬ t = ah_x h1069) ∧ (∀ h1082, h1082 = ah_sr h1075 t 35 (some w1073) → (∀ w1086, w1086 = ah_x h1082 → (∀ h1088, h1088 = ah_nw h1082 14 10 → (¬ t = ah_x h1082) ∧ (∀ h1095, h1095 = ah_sr h1088 t 36 (some w1086) → (∀ w1099, w1099 = ah_x h1095 → (∀ h1101, h1101 = ah_nw h1095 16 10 → (¬ t = ah_x h1095) ∧ (∀ h1108, h1108 = ah_sr h1101 t 37 (some w1099) → (∀ w1112, w1112 = ah_x h1108 → (∀ h1114, h1114 = ah_nw h1108 16 10 → (¬ t = ah_x h1108) ∧ (∀ h1121, h1121 = ah_sr h1114 t 38 (some w1112) → (∀ w1125, w1125 = ah_x h1121 → (∀ h1127, h1127 = ah_nw h1121 14 360 → (¬ t = ah_x h1121) ∧ (∀ h1134, h1134 = ah_sr h1127 t 39 (some w1125) → (∀ w1138, w1138 = ah_x h1134 → (∀ h1140, h1140 = ah_nw h1134 14 3 → (¬ t = ah_x h1134) ∧ (∀ h1147, h1147 = ah_sr h1140 t 40 (some w1138) → (∀ w1151, w1151 = ah_x h1147 → (∀ h1153, h1153 = ah_nw h1147 16 1200 → (¬ t = ah_x h1147) ∧ (∀ h1160, h1160 = ah_sr h1153 t 44 (some w1151) → (∀ w1164, w1164 = ah_x h1160 → (∀ h1166, h1166 = ah_nw h1160 14 1200 → (¬ t = ah_x h1160) ∧ (∀ h1173, h1173 = ah_sr h1166 t 45 (some w1164) → (∀ w1177, w1177 = ah_x h1173 → (∀ h1179, h1179 = ah_nw h1173 16 1200 → (¬ t = ah_x h1173) ∧ (∀ h1186, h1186 = ah_sr h1179 t 46 (some w1177) → (∀ h1190, h1190 = ah_si h1186 t 49 (-1) → (∀ w1194, w1194 = ah_x h1190 → (∀ h1196, h1196 = ah_nw h1190 14 10240 → (¬ t = ah_x h1190) ∧ (∀ h1203, h1203 = ah_sr h1196 t 50 (some w1194) → (∀ w1207, w1207 = ah_x h1203 → (∀ h1209, h1209 = ah_nw h1203 14 120 → (¬ t = ah_x h1203) ∧ (∀ h1216, h1216 = ah_sr h1209 t 51 (some w1207) → (∀ w1220, w1220 = ah_x h1216 → (∀ h1222, h1222 = ah_nw h1216 14 120 → (¬ t = ah_x h1216) ∧ (∀ h1229, h1229 = ah_sr h1222 t 52 (some w1220) → (∀ w1233, w1233 = ah_x h1229 → (∀ h1235, h1235 = ah_nw h1229 14 3 → (¬ t = ah_x h1229) ∧ (∀ h1242, h1242 = ah_sr h1235 t 53 (some w1233) → (∀ w1246, w1246 = ah_x h1242 → (∀ h1248, h1248 = ah_nw h1242 14 3 → (¬ t = ah_x h1242) ∧ (∀ h1255, h1255 = ah_sr h1248 t 54 (some w1246) → (∀ w1259, w1259 = ah_x h1255 → (∀ h1261, h1261 = ah_nw h1255 14 6 → (¬ t = ah_x h1255) ∧ (∀ h1268, h1268 = ah_sr h1261 t 56 (some w1259) → (∀ w1272, w1272 = ah_x h1268 → (∀ h1274, h1274 = ah_nw h1268 14 6 → (¬ t = ah_x h1268) ∧ (∀ h1281, h1281 = ah_sr h1274 t 57 (some w1272) → (∀ w1285, w1285 = ah_x h1281 → (∀ h1287, h1287 = ah_nw h1281 14 6 → (¬ t = ah_x h1281) ∧ (∀ h1294, h1294 = ah_sr h1287 t 58 (some w1285) → (∀ w1298, w1298 = ah_x h1294 → (∀ h1300, h1300 = ah_nw h1294 14 3 → (¬ t = ah_x h1294) ∧ (∀ h1307, h1307 = ah_sr h1300 t 59 (some w1298) → (∀ h1311, h1311 = ah_si h1307 t 62 (-1) → (∀ h1315, h1315 = ah_si h1311 t 66 (-1) → (∀ w1319, w1319 = ah_x h1315 → (∀ h1321, h1321 = ah_nw h1315 15 3 → (¬ t = ah_x h1315) ∧ (∀ h1328, h1328 = ah_sr h1321 t 75 (some w1319) → (∀ w1332, w1332 = ah_x h1328 → (∀ h1334, h1334 = ah_nw h1328 14 120 → (¬ t = ah_x h1328) ∧ (∀ h1341, h1341 = ah_sr h1334 t 76 (some w1332) → (∃ b1345, ah_r h1341 t 3 = some b1345 ∧ ah_k h1341 b1345 = 14 ∧ (vp_in 243 (ah_n h1341 b1345)) ∧ (∀ h1349, h1349 = ah_si h1341 b1345 (Int32.toNatClampNeg 243) 3 → (∃ b1353, ah_r h1349 t 3 = some b1353 ∧ ah_k h1349 b1353 = 14 ∧ (vp_in 252 (ah_n h1349 b1353)) ∧ (∀ h1357, h1357 = ah_si h1349 b1353 (Int32.toNatClampNeg 252) (-1) → Q none h1357)))))))))))))))))))))))))))))))))))))))))))))))))))))))))))))))))))))))))))))))))))))))))))))))))))))))))))))))))))))))))))))))))))))))))))))))))))))))))))))))))))))))))))))))))))))))))))))))))))))))))))))))))))))))))))))))))))))))))))))))))))))))))))))))))))))))) : Mt nX12_init [.ref t] h Q := by
  refine Mt.ofWp rfl (by exact (Nat.le_of_ble_eq_true rfl)) (Wp.fewer (L' := [some (.ref t)]) (show ab_leL _ _ from ⟨rfl, trivial⟩) ?_)
  refine ab_aload_n (i := 0) dX12_init_0 rfl rfl ?_
  refine ab_obj (tb_6 (List.mem_of_getElem? (i := 217) (by decide +kernel)) rfl) in_obj co_obj (Nat.le_of_ble_eq_true rfl) (Nat.le_of_ble_eq_true rfl) dX12_init_1 ?_
  refine ab_aload_n (i := 0) dX12_init_4 rfl rfl ?_
  refine ab_bipush (v := 7) dX12_init_5 (by decide) ?_
  refine ab_newa (N := 7) 14 1 .int (by decide) rfl wa_int (by decide) (by decide) (by decide) (Nat.le_of_ble_eq_true rfl) (Nat.le_of_ble_eq_true rfl) dX12_init_7 ?_
  obtain ⟨w1, ew2⟩ : ∃ z, z = ah_x h := ⟨_, rfl⟩
  rw [← ew2]
  have ht := ht w1 ew2
  refine Wp.nm fun h3 e4 => ?_
  have ht := ht h3 e4
  have hc7 := ht.1
  have ht := ht.2
  have hk6 : ah_k h3 t = 12 := by rw [e4, ah_k_nw, if_neg hc7]; exact hk_t
  have hk8 : ah_k h3 w1 = 14 := by rw [e4, ew2, ah_k_nw, if_pos rfl]
  have hn9 : ah_n h3 w1 = 7 := by rw [e4, ew2, ah_n_nw, if_pos rfl]
  refine ab_putR (r := (some w1)) f_X12_7 (Or.inr ⟨rfl, rfl, rfl⟩) rfl hk6 (fun x => by cases x <;> rfl) (fun x => by cases x <;> rfl) dX12_init_9 ?_
  refine Wp.nm fun h10 e11 => ?_
  have ht := ht h10 e11
  have hk13 : ah_k h10 t = 12 := by rw [e11]; exact hk6
  refine ab_aload_n (i := 0) dX12_init_12 rfl rfl ?_
  refine ab_sipush (v := 5860) dX12_init_13 (by decide) ?_
  refine ab_newa (N := 5860) 14 1 .int (by decide) rfl wa_int (by decide) (by decide) (by decide) (Nat.le_of_ble_eq_true rfl) (Nat.le_of_ble_eq_true rfl) dX12_init_16 ?_
  obtain ⟨w14, ew15⟩ : ∃ z, z = ah_x h10 := ⟨_, rfl⟩
  rw [← ew15]
  have ht := ht w14 ew15
  refine Wp.nm fun h16 e17 => ?_
  have ht := ht h16 e17
  have hc20 := ht.1
  have ht := ht.2
  have hk19 : ah_k h16 t = 12 := by rw [e17, ah_k_nw, if_neg hc20]; exact hk13
  have hk21 : ah_k h16 w14 = 14 := by rw [e17, ew15, ah_k_nw, if_pos rfl]
  have hn22 : ah_n h16 w14 = 5860 := by rw [e17, ew15, ah_n_nw, if_pos rfl]
  refine ab_putR (r := (some w14)) f_X12_20 (Or.inr ⟨rfl, rfl, rfl⟩) rfl hk19 (fun x => by cases x <;> rfl) (fun x => by cases x <;> rfl) dX12_init_18 ?_
  refine Wp.nm fun h23 e24 => ?_
  have ht := ht h23 e24
  have hk26 : ah_k h23 t = 12 := by rw [e24]; exact hk19
  refine ab_aload_n (i := 0) dX12_init_21 rfl rfl ?_
  refine ab_sipush (v := 11720) dX12_init_22 (by decide) ?_
  refine ab_newa (N := 11720) 14 1 .int (by decide) rfl wa_int (by decide) (by decide) (by decide) (Nat.le_of_ble_eq_true rfl) (Nat.le_of_ble_eq_true rfl) dX12_init_25 ?_
  obtain ⟨w27, ew28⟩ : ∃ z, z = ah_x h23 := ⟨_, rfl⟩
  rw [← ew28]
  have ht := ht w27 ew28
  refine Wp.nm fun h29 e30 => ?_
  have ht := ht h29 e30
  have hc33 := ht.1
  have ht := ht.2
  have hk32 : ah_k h29 t = 12 := by rw [e30, ah_k_nw, if_neg hc33]; exact hk26
  have hk34 : ah_k h29 w27 = 14 := by rw [e30, ew28, ah_k_nw, if_pos rfl]
  have hn35 : ah_n h29 w27 = 11720 := by rw [e30, ew28, ah_n_nw, if_pos rfl]
  refine ab_putR (r := (some w27)) f_X12_23 (Or.inr ⟨rfl, rfl, rfl⟩) rfl hk32 (fun x => by cases x <;> rfl) (fun x => by cases x <;> rfl) dX12_init_27 ?_
  refine Wp.nm fun h36 e37 => ?_
  have ht := ht h36 e37
  have hk39 : ah_k h36 t = 12 := by rw [e37]; exact hk32
  refine ab_aload_n (i := 0) dX12_init_30 rfl rfl ?_
  refine ab_iconst (v := 2) dX12_init_31 (by decide) ?_
  refine ab_newa (N := 2) 16 3 .boolean (by decide) rfl wa_boolean (by decide) (by decide) (by decide) (Nat.le_of_ble_eq_true rfl) (Nat.le_of_ble_eq_true rfl) dX12_init_32 ?_
  obtain ⟨w40, ew41⟩ : ∃ z, z = ah_x h36 := ⟨_, rfl⟩
  rw [← ew41]
  have ht := ht w40 ew41
  refine Wp.nm fun h42 e43 => ?_
  have ht := ht h42 e43
  have hc46 := ht.1
  have ht := ht.2
  have hk45 : ah_k h42 t = 12 := by rw [e43, ah_k_nw, if_neg hc46]; exact hk39
  have hk47 : ah_k h42 w40 = 16 := by rw [e43, ew41, ah_k_nw, if_pos rfl]
  have hn48 : ah_n h42 w40 = 2 := by rw [e43, ew41, ah_n_nw, if_pos rfl]
  refine ab_putR (r := (some w40)) f_X12_26 (Or.inr ⟨rfl, rfl, rfl⟩) rfl hk45 (fun x => by cases x <;> rfl) (fun x => by cases x <;> rfl) dX12_init_34 ?_
  refine Wp.nm fun h49 e50 => ?_
  have ht := ht h49 e50
  have hk52 : ah_k h49 t = 12 := by rw [e50]; exact hk45
  refine ab_aload_n (i := 0) dX12_init_37 rfl rfl ?_
  refine ab_sipush (v := 134) dX12_init_38 (by decide) ?_
  refine ab_newa (N := 134) 13 0 .byte (by decide) rfl wa_byte (by decide) (by decide) (by decide) (Nat.le_of_ble_eq_true rfl) (Nat.le_of_ble_eq_true rfl) dX12_init_41 ?_
  obtain ⟨w53, ew54⟩ : ∃ z, z = ah_x h49 := ⟨_, rfl⟩
  rw [← ew54]
  have ht := ht w53 ew54
  refine Wp.nm fun h55 e56 => ?_
  have ht := ht h55 e56
  have hc59 := ht.1
  have ht := ht.2
  have hk58 : ah_k h55 t = 12 := by rw [e56, ah_k_nw, if_neg hc59]; exact hk52
  have hk60 : ah_k h55 w53 = 13 := by rw [e56, ew54, ah_k_nw, if_pos rfl]
  have hn61 : ah_n h55 w53 = 134 := by rw [e56, ew54, ah_n_nw, if_pos rfl]
  refine ab_dup dX12_init_43 rfl ?_
  refine ab_iconst (v := 0) dX12_init_44 (by decide) ?_
  refine ab_bipush (v := 115) dX12_init_45 (by decide) ?_
  refine ab_bast hk60 (by rw [hn61]; unfold vp_in; decide) dX12_init_47 ?_
  refine Wp.nm fun h62 e63 => ?_
  have ht := ht h62 e63
  have hn65 : ah_n h62 w53 = 134 := by rw [e63]; exact hn61
  have hk66 : ah_k h62 t = 12 := by rw [e63]; exact hk58
  have hk67 : ah_k h62 w53 = 13 := by rw [e63]; exact hk60
  refine ab_dup dX12_init_48 rfl ?_
  refine ab_iconst (v := 1) dX12_init_49 (by decide) ?_
  refine ab_bipush (v := 104) dX12_init_50 (by decide) ?_
  refine ab_bast hk67 (by rw [hn65]; unfold vp_in; decide) dX12_init_52 ?_
  refine Wp.nm fun h68 e69 => ?_
  have ht := ht h68 e69
  have hn71 : ah_n h68 w53 = 134 := by rw [e69]; exact hn65
  have hk72 : ah_k h68 t = 12 := by rw [e69]; exact hk66
  have hk73 : ah_k h68 w53 = 13 := by rw [e69]; exact hk67
  refine ab_dup dX12_init_53 rfl ?_
  refine ab_iconst (v := 2) dX12_init_54 (by decide) ?_
  refine ab_bipush (v := 117) dX12_init_55 (by decide) ?_
  refine ab_bast hk73 (by rw [hn71]; unfold vp_in; decide) dX12_init_57 ?_
  refine Wp.nm fun h74 e75 => ?_
  have ht := ht h74 e75
  have hn77 : ah_n h74 w53 = 134 := by rw [e75]; exact hn71
  have hk78 : ah_k h74 t = 12 := by rw [e75]; exact hk72
  have hk79 : ah_k h74 w53 = 13 := by rw [e75]; exact hk73
  refine ab_dup dX12_init_58 rfl ?_
  refine ab_iconst (v := 3) dX12_init_59 (by decide) ?_
  refine ab_bipush (v := 110) dX12_init_60 (by decide) ?_
  refine ab_bast hk79 (by rw [hn77]; unfold vp_in; decide) dX12_init_62 ?_
  refine Wp.nm fun h80 e81 => ?_
  have ht := ht h80 e81
  have hn83 : ah_n h80 w53 = 134 := by rw [e81]; exact hn77
  have hk84 : ah_k h80 t = 12 := by rw [e81]; exact hk78
  have hk85 : ah_k h80 w53 = 13 := by rw [e81]; exact hk79
  refine ab_dup dX12_init_63 rfl ?_
  refine ab_iconst (v := 4) dX12_init_64 (by decide) ?_
  refine ab_bipush (v := 115) dX12_init_65 (by decide) ?_
  refine ab_bast hk85 (by rw [hn83]; unfold vp_in; decide) dX12_init_67 ?_
  refine Wp.nm fun h86 e87 => ?_
  have ht := ht h86 e87
  have hn89 : ah_n h86 w53 = 134 := by rw [e87]; exact hn83
  have hk90 : ah_k h86 t = 12 := by rw [e87]; exact hk84
  have hk91 : ah_k h86 w53 = 13 := by rw [e87]; exact hk85
  refine ab_dup dX12_init_68 rfl ?_
  refine ab_iconst (v := 5) dX12_init_69 (by decide) ?_
  refine ab_bipush (v := 32) dX12_init_70 (by decide) ?_
  refine ab_bast hk91 (by rw [hn89]; unfold vp_in; decide) dX12_init_72 ?_
  refine Wp.nm fun h92 e93 => ?_
  have ht := ht h92 e93
  have hn95 : ah_n h92 w53 = 134 := by rw [e93]; exact hn89
  have hk96 : ah_k h92 t = 12 := by rw [e93]; exact hk90
  have hk97 : ah_k h92 w53 = 13 := by rw [e93]; exact hk91
  refine ab_dup dX12_init_73 rfl ?_
  refine ab_bipush (v := 6) dX12_init_74 (by decide) ?_
  refine ab_bipush (v := 114) dX12_init_76 (by decide) ?_
  refine ab_bast hk97 (by rw [hn95]; unfold vp_in; decide) dX12_init_78 ?_
  refine Wp.nm fun h98 e99 => ?_
  have ht := ht h98 e99
  have hn101 : ah_n h98 w53 = 134 := by rw [e99]; exact hn95
  have hk102 : ah_k h98 t = 12 := by rw [e99]; exact hk96
  have hk103 : ah_k h98 w53 = 13 := by rw [e99]; exact hk97
  refine ab_dup dX12_init_79 rfl ?_
  refine ab_bipush (v := 7) dX12_init_80 (by decide) ?_
  refine ab_bipush (v := 101) dX12_init_82 (by decide) ?_
  refine ab_bast hk103 (by rw [hn101]; unfold vp_in; decide) dX12_init_84 ?_
  refine Wp.nm fun h104 e105 => ?_
  have ht := ht h104 e105
  have hn107 : ah_n h104 w53 = 134 := by rw [e105]; exact hn101
  have hk108 : ah_k h104 t = 12 := by rw [e105]; exact hk102
  have hk109 : ah_k h104 w53 = 13 := by rw [e105]; exact hk103
  refine ab_dup dX12_init_85 rfl ?_
  refine ab_bipush (v := 8) dX12_init_86 (by decide) ?_
  refine ab_bipush (v := 97) dX12_init_88 (by decide) ?_
  refine ab_bast hk109 (by rw [hn107]; unfold vp_in; decide) dX12_init_90 ?_
  refine Wp.nm fun h110 e111 => ?_
  have ht := ht h110 e111
  have hn113 : ah_n h110 w53 = 134 := by rw [e111]; exact hn107
  have hk114 : ah_k h110 t = 12 := by rw [e111]; exact hk108
  have hk115 : ah_k h110 w53 = 13 := by rw [e111]; exact hk109
  refine ab_dup dX12_init_91 rfl ?_
  refine ab_bipush (v := 9) dX12_init_92 (by decide) ?_
  refine ab_bipush (v := 99) dX12_init_94 (by decide) ?_
  refine ab_bast hk115 (by rw [hn113]; unfold vp_in; decide) dX12_init_96 ?_
  refine Wp.nm fun h116 e117 => ?_
  have ht := ht h116 e117
  have hn119 : ah_n h116 w53 = 134 := by rw [e117]; exact hn113
  have hk120 : ah_k h116 t = 12 := by rw [e117]; exact hk114
  have hk121 : ah_k h116 w53 = 13 := by rw [e117]; exact hk115
  refine ab_dup dX12_init_97 rfl ?_
  refine ab_bipush (v := 10) dX12_init_98 (by decide) ?_
  refine ab_bipush (v := 104) dX12_init_100 (by decide) ?_
  refine ab_bast hk121 (by rw [hn119]; unfold vp_in; decide) dX12_init_102 ?_
  refine Wp.nm fun h122 e123 => ?_
  have ht := ht h122 e123
  have hn125 : ah_n h122 w53 = 134 := by rw [e123]; exact hn119
  have hk126 : ah_k h122 t = 12 := by rw [e123]; exact hk120
  have hk127 : ah_k h122 w53 = 13 := by rw [e123]; exact hk121
  refine ab_dup dX12_init_103 rfl ?_
  refine ab_bipush (v := 11) dX12_init_104 (by decide) ?_
  refine ab_bipush (v := 101) dX12_init_106 (by decide) ?_
  refine ab_bast hk127 (by rw [hn125]; unfold vp_in; decide) dX12_init_108 ?_
  refine Wp.nm fun h128 e129 => ?_
  have ht := ht h128 e129
  have hn131 : ah_n h128 w53 = 134 := by rw [e129]; exact hn125
  have hk132 : ah_k h128 t = 12 := by rw [e129]; exact hk126
  have hk133 : ah_k h128 w53 = 13 := by rw [e129]; exact hk127
  refine ab_dup dX12_init_109 rfl ?_
  refine ab_bipush (v := 12) dX12_init_110 (by decide) ?_
  refine ab_bipush (v := 115) dX12_init_112 (by decide) ?_
  refine ab_bast hk133 (by rw [hn131]; unfold vp_in; decide) dX12_init_114 ?_
  refine Wp.nm fun h134 e135 => ?_
  have ht := ht h134 e135
  have hn137 : ah_n h134 w53 = 134 := by rw [e135]; exact hn131
  have hk138 : ah_k h134 t = 12 := by rw [e135]; exact hk132
  have hk139 : ah_k h134 w53 = 13 := by rw [e135]; exact hk133
  refine ab_dup dX12_init_115 rfl ?_
  refine ab_bipush (v := 13) dX12_init_116 (by decide) ?_
  refine ab_bipush (v := 32) dX12_init_118 (by decide) ?_
  refine ab_bast hk139 (by rw [hn137]; unfold vp_in; decide) dX12_init_120 ?_
  refine Wp.nm fun h140 e141 => ?_
  have ht := ht h140 e141
  have hn143 : ah_n h140 w53 = 134 := by rw [e141]; exact hn137
  have hk144 : ah_k h140 t = 12 := by rw [e141]; exact hk138
  have hk145 : ah_k h140 w53 = 13 := by rw [e141]; exact hk139
  refine ab_dup dX12_init_121 rfl ?_
  refine ab_bipush (v := 14) dX12_init_122 (by decide) ?_
  refine ab_bipush (v := 100) dX12_init_124 (by decide) ?_
  refine ab_bast hk145 (by rw [hn143]; unfold vp_in; decide) dX12_init_126 ?_
  refine Wp.nm fun h146 e147 => ?_
  have ht := ht h146 e147
  have hn149 : ah_n h146 w53 = 134 := by rw [e147]; exact hn143
  have hk150 : ah_k h146 t = 12 := by rw [e147]; exact hk144
  have hk151 : ah_k h146 w53 = 13 := by rw [e147]; exact hk145
  refine ab_dup dX12_init_127 rfl ?_
  refine ab_bipush (v := 15) dX12_init_128 (by decide) ?_
  refine ab_bipush (v := 114) dX12_init_130 (by decide) ?_
  refine ab_bast hk151 (by rw [hn149]; unfold vp_in; decide) dX12_init_132 ?_
  refine Wp.nm fun h152 e153 => ?_
  have ht := ht h152 e153
  have hn155 : ah_n h152 w53 = 134 := by rw [e153]; exact hn149
  have hk156 : ah_k h152 t = 12 := by rw [e153]; exact hk150
  have hk157 : ah_k h152 w53 = 13 := by rw [e153]; exact hk151
  refine ab_dup dX12_init_133 rfl ?_
  refine ab_bipush (v := 16) dX12_init_134 (by decide) ?_
  refine ab_bipush (v := 105) dX12_init_136 (by decide) ?_
  refine ab_bast hk157 (by rw [hn155]; unfold vp_in; decide) dX12_init_138 ?_
  refine Wp.nm fun h158 e159 => ?_
  have ht := ht h158 e159
  have hn161 : ah_n h158 w53 = 134 := by rw [e159]; exact hn155
  have hk162 : ah_k h158 t = 12 := by rw [e159]; exact hk156
  have hk163 : ah_k h158 w53 = 13 := by rw [e159]; exact hk157
  refine ab_dup dX12_init_139 rfl ?_
  refine ab_bipush (v := 17) dX12_init_140 (by decide) ?_
  refine ab_bipush (v := 110) dX12_init_142 (by decide) ?_
  refine ab_bast hk163 (by rw [hn161]; unfold vp_in; decide) dX12_init_144 ?_
  refine Wp.nm fun h164 e165 => ?_
  have ht := ht h164 e165
  have hn167 : ah_n h164 w53 = 134 := by rw [e165]; exact hn161
  have hk168 : ah_k h164 t = 12 := by rw [e165]; exact hk162
  have hk169 : ah_k h164 w53 = 13 := by rw [e165]; exact hk163
  refine ab_dup dX12_init_145 rfl ?_
  refine ab_bipush (v := 18) dX12_init_146 (by decide) ?_
  refine ab_bipush (v := 107) dX12_init_148 (by decide) ?_
  refine ab_bast hk169 (by rw [hn167]; unfold vp_in; decide) dX12_init_150 ?_
  refine Wp.nm fun h170 e171 => ?_
  have ht := ht h170 e171
  have hn173 : ah_n h170 w53 = 134 := by rw [e171]; exact hn167
  have hk174 : ah_k h170 t = 12 := by rw [e171]; exact hk168
  have hk175 : ah_k h170 w53 = 13 := by rw [e171]; exact hk169
  refine ab_dup dX12_init_151 rfl ?_
  refine ab_bipush (v := 19) dX12_init_152 (by decide) ?_
  refine ab_bipush (v := 115) dX12_init_154 (by decide) ?_
  refine ab_bast hk175 (by rw [hn173]; unfold vp_in; decide) dX12_init_156 ?_
  refine Wp.nm fun h176 e177 => ?_
  have ht := ht h176 e177
  have hn179 : ah_n h176 w53 = 134 := by rw [e177]; exact hn173
  have hk180 : ah_k h176 t = 12 := by rw [e177]; exact hk174
  have hk181 : ah_k h176 w53 = 13 := by rw [e177]; exact hk175
  refine ab_dup dX12_init_157 rfl ?_
  refine ab_bipush (v := 20) dX12_init_158 (by decide) ?_
  refine ab_bipush (v := 32) dX12_init_160 (by decide) ?_
  refine ab_bast hk181 (by rw [hn179]; unfold vp_in; decide) dX12_init_162 ?_
  refine Wp.nm fun h182 e183 => ?_
  have ht := ht h182 e183
  have hn185 : ah_n h182 w53 = 134 := by rw [e183]; exact hn179
  have hk186 : ah_k h182 t = 12 := by rw [e183]; exact hk180
  have hk187 : ah_k h182 w53 = 13 := by rw [e183]; exact hk181
  refine ab_dup dX12_init_163 rfl ?_
  refine ab_bipush (v := 21) dX12_init_164 (by decide) ?_
  refine ab_bipush (v := 105) dX12_init_166 (by decide) ?_
  refine ab_bast hk187 (by rw [hn185]; unfold vp_in; decide) dX12_init_168 ?_
  refine Wp.nm fun h188 e189 => ?_
  have ht := ht h188 e189
  have hn191 : ah_n h188 w53 = 134 := by rw [e189]; exact hn185
  have hk192 : ah_k h188 t = 12 := by rw [e189]; exact hk186
  have hk193 : ah_k h188 w53 = 13 := by rw [e189]; exact hk187
  refine ab_dup dX12_init_169 rfl ?_
  refine ab_bipush (v := 22) dX12_init_170 (by decide) ?_
  refine ab_bipush (v := 102) dX12_init_172 (by decide) ?_
  refine ab_bast hk193 (by rw [hn191]; unfold vp_in; decide) dX12_init_174 ?_
  refine Wp.nm fun h194 e195 => ?_
  have ht := ht h194 e195
  have hn197 : ah_n h194 w53 = 134 := by rw [e195]; exact hn191
  have hk198 : ah_k h194 t = 12 := by rw [e195]; exact hk192
  have hk199 : ah_k h194 w53 = 13 := by rw [e195]; exact hk193
  refine ab_dup dX12_init_175 rfl ?_
  refine ab_bipush (v := 23) dX12_init_176 (by decide) ?_
  refine ab_bipush (v := 32) dX12_init_178 (by decide) ?_
  refine ab_bast hk199 (by rw [hn197]; unfold vp_in; decide) dX12_init_180 ?_
  refine Wp.nm fun h200 e201 => ?_
  have ht := ht h200 e201
  have hn203 : ah_n h200 w53 = 134 := by rw [e201]; exact hn197
  have hk204 : ah_k h200 t = 12 := by rw [e201]; exact hk198
  have hk205 : ah_k h200 w53 = 13 := by rw [e201]; exact hk199
  refine ab_dup dX12_init_181 rfl ?_
  refine ab_bipush (v := 24) dX12_init_182 (by decide) ?_
  refine ab_bipush (v := 111) dX12_init_184 (by decide) ?_
  refine ab_bast hk205 (by rw [hn203]; unfold vp_in; decide) dX12_init_186 ?_
  refine Wp.nm fun h206 e207 => ?_
  have ht := ht h206 e207
  have hn209 : ah_n h206 w53 = 134 := by rw [e207]; exact hn203
  have hk210 : ah_k h206 t = 12 := by rw [e207]; exact hk204
  have hk211 : ah_k h206 w53 = 13 := by rw [e207]; exact hk205
  refine ab_dup dX12_init_187 rfl ?_
  refine ab_bipush (v := 25) dX12_init_188 (by decide) ?_
  refine ab_bipush (v := 114) dX12_init_190 (by decide) ?_
  refine ab_bast hk211 (by rw [hn209]; unfold vp_in; decide) dX12_init_192 ?_
  refine Wp.nm fun h212 e213 => ?_
  have ht := ht h212 e213
  have hn215 : ah_n h212 w53 = 134 := by rw [e213]; exact hn209
  have hk216 : ah_k h212 t = 12 := by rw [e213]; exact hk210
  have hk217 : ah_k h212 w53 = 13 := by rw [e213]; exact hk211
  refine ab_dup dX12_init_193 rfl ?_
  refine ab_bipush (v := 26) dX12_init_194 (by decide) ?_
  refine ab_bipush (v := 32) dX12_init_196 (by decide) ?_
  refine ab_bast hk217 (by rw [hn215]; unfold vp_in; decide) dX12_init_198 ?_
  refine Wp.nm fun h218 e219 => ?_
  have ht := ht h218 e219
  have hn221 : ah_n h218 w53 = 134 := by rw [e219]; exact hn215
  have hk222 : ah_k h218 t = 12 := by rw [e219]; exact hk216
  have hk223 : ah_k h218 w53 = 13 := by rw [e219]; exact hk217
  refine ab_dup dX12_init_199 rfl ?_
  refine ab_bipush (v := 27) dX12_init_200 (by decide) ?_
  refine ab_bipush (v := 97) dX12_init_202 (by decide) ?_
  refine ab_bast hk223 (by rw [hn221]; unfold vp_in; decide) dX12_init_204 ?_
  refine Wp.nm fun h224 e225 => ?_
  have ht := ht h224 e225
  have hn227 : ah_n h224 w53 = 134 := by rw [e225]; exact hn221
  have hk228 : ah_k h224 t = 12 := by rw [e225]; exact hk222
  have hk229 : ah_k h224 w53 = 13 := by rw [e225]; exact hk223
  refine ab_dup dX12_init_205 rfl ?_
  refine ab_bipush (v := 28) dX12_init_206 (by decide) ?_
  refine ab_bipush (v := 110) dX12_init_208 (by decide) ?_
  refine ab_bast hk229 (by rw [hn227]; unfold vp_in; decide) dX12_init_210 ?_
  refine Wp.nm fun h230 e231 => ?_
  have ht := ht h230 e231
  have hn233 : ah_n h230 w53 = 134 := by rw [e231]; exact hn227
  have hk234 : ah_k h230 t = 12 := by rw [e231]; exact hk228
  have hk235 : ah_k h230 w53 = 13 := by rw [e231]; exact hk229
  refine ab_dup dX12_init_211 rfl ?_
  refine ab_bipush (v := 29) dX12_init_212 (by decide) ?_
  refine ab_bipush (v := 100) dX12_init_214 (by decide) ?_
  refine ab_bast hk235 (by rw [hn233]; unfold vp_in; decide) dX12_init_216 ?_
  refine Wp.nm fun h236 e237 => ?_
  have ht := ht h236 e237
  have hn239 : ah_n h236 w53 = 134 := by rw [e237]; exact hn233
  have hk240 : ah_k h236 t = 12 := by rw [e237]; exact hk234
  have hk241 : ah_k h236 w53 = 13 := by rw [e237]; exact hk235
  refine ab_dup dX12_init_217 rfl ?_
  refine ab_bipush (v := 30) dX12_init_218 (by decide) ?_
  refine ab_bipush (v := 32) dX12_init_220 (by decide) ?_
  refine ab_bast hk241 (by rw [hn239]; unfold vp_in; decide) dX12_init_222 ?_
  refine Wp.nm fun h242 e243 => ?_
  have ht := ht h242 e243
  have hn245 : ah_n h242 w53 = 134 := by rw [e243]; exact hn239
  have hk246 : ah_k h242 t = 12 := by rw [e243]; exact hk240
  have hk247 : ah_k h242 w53 = 13 := by rw [e243]; exact hk241
  refine ab_dup dX12_init_223 rfl ?_
  refine ab_bipush (v := 31) dX12_init_224 (by decide) ?_
  refine ab_bipush (v := 110) dX12_init_226 (by decide) ?_
  refine ab_bast hk247 (by rw [hn245]; unfold vp_in; decide) dX12_init_228 ?_
  refine Wp.nm fun h248 e249 => ?_
  have ht := ht h248 e249
  have hn251 : ah_n h248 w53 = 134 := by rw [e249]; exact hn245
  have hk252 : ah_k h248 t = 12 := by rw [e249]; exact hk246
  have hk253 : ah_k h248 w53 = 13 := by rw [e249]; exact hk247
  refine ab_dup dX12_init_229 rfl ?_
  refine ab_bipush (v := 32) dX12_init_230 (by decide) ?_
  refine ab_bipush (v := 111) dX12_init_232 (by decide) ?_
  refine ab_bast hk253 (by rw [hn251]; unfold vp_in; decide) dX12_init_234 ?_
  refine Wp.nm fun h254 e255 => ?_
  have ht := ht h254 e255
  have hn257 : ah_n h254 w53 = 134 := by rw [e255]; exact hn251
  have hk258 : ah_k h254 t = 12 := by rw [e255]; exact hk252
  have hk259 : ah_k h254 w53 = 13 := by rw [e255]; exact hk253
  refine ab_dup dX12_init_235 rfl ?_
  refine ab_bipush (v := 33) dX12_init_236 (by decide) ?_
  refine ab_bipush (v := 116) dX12_init_238 (by decide) ?_
  refine ab_bast hk259 (by rw [hn257]; unfold vp_in; decide) dX12_init_240 ?_
  refine Wp.nm fun h260 e261 => ?_
  have ht := ht h260 e261
  have hn263 : ah_n h260 w53 = 134 := by rw [e261]; exact hn257
  have hk264 : ah_k h260 t = 12 := by rw [e261]; exact hk258
  have hk265 : ah_k h260 w53 = 13 := by rw [e261]; exact hk259
  refine ab_dup dX12_init_241 rfl ?_
  refine ab_bipush (v := 34) dX12_init_242 (by decide) ?_
  refine ab_bipush (v := 32) dX12_init_244 (by decide) ?_
  refine ab_bast hk265 (by rw [hn263]; unfold vp_in; decide) dX12_init_246 ?_
  refine Wp.nm fun h266 e267 => ?_
  have ht := ht h266 e267
  have hn269 : ah_n h266 w53 = 134 := by rw [e267]; exact hn263
  have hk270 : ah_k h266 t = 12 := by rw [e267]; exact hk264
  have hk271 : ah_k h266 w53 = 13 := by rw [e267]; exact hk265
  refine ab_dup dX12_init_247 rfl ?_
  refine ab_bipush (v := 35) dX12_init_248 (by decide) ?_
  refine ab_bipush (v := 108) dX12_init_250 (by decide) ?_
  refine ab_bast hk271 (by rw [hn269]; unfold vp_in; decide) dX12_init_252 ?_
  refine Wp.nm fun h272 e273 => ?_
  have ht := ht h272 e273
  have hn275 : ah_n h272 w53 = 134 := by rw [e273]; exact hn269
  have hk276 : ah_k h272 t = 12 := by rw [e273]; exact hk270
  have hk277 : ah_k h272 w53 = 13 := by rw [e273]; exact hk271
  refine ab_dup dX12_init_253 rfl ?_
  refine ab_bipush (v := 36) dX12_init_254 (by decide) ?_
  refine ab_bipush (v := 97) dX12_init_256 (by decide) ?_
  refine ab_bast hk277 (by rw [hn275]; unfold vp_in; decide) dX12_init_258 ?_
  refine Wp.nm fun h278 e279 => ?_
  have ht := ht h278 e279
  have hn281 : ah_n h278 w53 = 134 := by rw [e279]; exact hn275
  have hk282 : ah_k h278 t = 12 := by rw [e279]; exact hk276
  have hk283 : ah_k h278 w53 = 13 := by rw [e279]; exact hk277
  refine ab_dup dX12_init_259 rfl ?_
  refine ab_bipush (v := 37) dX12_init_260 (by decide) ?_
  refine ab_bipush (v := 109) dX12_init_262 (by decide) ?_
  refine ab_bast hk283 (by rw [hn281]; unfold vp_in; decide) dX12_init_264 ?_
  refine Wp.nm fun h284 e285 => ?_
  have ht := ht h284 e285
  have hn287 : ah_n h284 w53 = 134 := by rw [e285]; exact hn281
  have hk288 : ah_k h284 t = 12 := by rw [e285]; exact hk282
  have hk289 : ah_k h284 w53 = 13 := by rw [e285]; exact hk283
  refine ab_dup dX12_init_265 rfl ?_
  refine ab_bipush (v := 38) dX12_init_266 (by decide) ?_
  refine ab_bipush (v := 112) dX12_init_268 (by decide) ?_
  refine ab_bast hk289 (by rw [hn287]; unfold vp_in; decide) dX12_init_270 ?_
  refine Wp.nm fun h290 e291 => ?_
  have ht := ht h290 e291
  have hn293 : ah_n h290 w53 = 134 := by rw [e291]; exact hn287
  have hk294 : ah_k h290 t = 12 := by rw [e291]; exact hk288
  have hk295 : ah_k h290 w53 = 13 := by rw [e291]; exact hk289
  refine ab_dup dX12_init_271 rfl ?_
  refine ab_bipush (v := 39) dX12_init_272 (by decide) ?_
  refine ab_bipush (v := 32) dX12_init_274 (by decide) ?_
  refine ab_bast hk295 (by rw [hn293]; unfold vp_in; decide) dX12_init_276 ?_
  refine Wp.nm fun h296 e297 => ?_
  have ht := ht h296 e297
  have hn299 : ah_n h296 w53 = 134 := by rw [e297]; exact hn293
  have hk300 : ah_k h296 t = 12 := by rw [e297]; exact hk294
  have hk301 : ah_k h296 w53 = 13 := by rw [e297]; exact hk295
  refine ab_dup dX12_init_277 rfl ?_
  refine ab_bipush (v := 40) dX12_init_278 (by decide) ?_
  refine ab_bipush (v := 107) dX12_init_280 (by decide) ?_
  refine ab_bast hk301 (by rw [hn299]; unfold vp_in; decide) dX12_init_282 ?_
  refine Wp.nm fun h302 e303 => ?_
  have ht := ht h302 e303
  have hn305 : ah_n h302 w53 = 134 := by rw [e303]; exact hn299
  have hk306 : ah_k h302 t = 12 := by rw [e303]; exact hk300
  have hk307 : ah_k h302 w53 = 13 := by rw [e303]; exact hk301
  refine ab_dup dX12_init_283 rfl ?_
  refine ab_bipush (v := 41) dX12_init_284 (by decide) ?_
  refine ab_bipush (v := 105) dX12_init_286 (by decide) ?_
  refine ab_bast hk307 (by rw [hn305]; unfold vp_in; decide) dX12_init_288 ?_
  refine Wp.nm fun h308 e309 => ?_
  have ht := ht h308 e309
  have hn311 : ah_n h308 w53 = 134 := by rw [e309]; exact hn305
  have hk312 : ah_k h308 t = 12 := by rw [e309]; exact hk306
  have hk313 : ah_k h308 w53 = 13 := by rw [e309]; exact hk307
  refine ab_dup dX12_init_289 rfl ?_
  refine ab_bipush (v := 42) dX12_init_290 (by decide) ?_
  refine ab_bipush (v := 110) dX12_init_292 (by decide) ?_
  refine ab_bast hk313 (by rw [hn311]; unfold vp_in; decide) dX12_init_294 ?_
  refine Wp.nm fun h314 e315 => ?_
  have ht := ht h314 e315
  have hn317 : ah_n h314 w53 = 134 := by rw [e315]; exact hn311
  have hk318 : ah_k h314 t = 12 := by rw [e315]; exact hk312
  have hk319 : ah_k h314 w53 = 13 := by rw [e315]; exact hk313
  refine ab_dup dX12_init_295 rfl ?_
  refine ab_bipush (v := 43) dX12_init_296 (by decide) ?_
  refine ab_bipush (v := 100) dX12_init_298 (by decide) ?_
  refine ab_bast hk319 (by rw [hn317]; unfold vp_in; decide) dX12_init_300 ?_
  refine Wp.nm fun h320 e321 => ?_
  have ht := ht h320 e321
  have hn323 : ah_n h320 w53 = 134 := by rw [e321]; exact hn317
  have hk324 : ah_k h320 t = 12 := by rw [e321]; exact hk318
  have hk325 : ah_k h320 w53 = 13 := by rw [e321]; exact hk319
  refine ab_dup dX12_init_301 rfl ?_
  refine ab_bipush (v := 44) dX12_init_302 (by decide) ?_
  refine ab_bipush (v := 32) dX12_init_304 (by decide) ?_
  refine ab_bast hk325 (by rw [hn323]; unfold vp_in; decide) dX12_init_306 ?_
  refine Wp.nm fun h326 e327 => ?_
  have ht := ht h326 e327
  have hn329 : ah_n h326 w53 = 134 := by rw [e327]; exact hn323
  have hk330 : ah_k h326 t = 12 := by rw [e327]; exact hk324
  have hk331 : ah_k h326 w53 = 13 := by rw [e327]; exact hk325
  refine ab_dup dX12_init_307 rfl ?_
  refine ab_bipush (v := 45) dX12_init_308 (by decide) ?_
  refine ab_bipush (v := 111) dX12_init_310 (by decide) ?_
  refine ab_bast hk331 (by rw [hn329]; unfold vp_in; decide) dX12_init_312 ?_
  refine Wp.nm fun h332 e333 => ?_
  have ht := ht h332 e333
  have hn335 : ah_n h332 w53 = 134 := by rw [e333]; exact hn329
  have hk336 : ah_k h332 t = 12 := by rw [e333]; exact hk330
  have hk337 : ah_k h332 w53 = 13 := by rw [e333]; exact hk331
  refine ab_dup dX12_init_313 rfl ?_
  refine ab_bipush (v := 46) dX12_init_314 (by decide) ?_
  refine ab_bipush (v := 116) dX12_init_316 (by decide) ?_
  refine ab_bast hk337 (by rw [hn335]; unfold vp_in; decide) dX12_init_318 ?_
  refine Wp.nm fun h338 e339 => ?_
  have ht := ht h338 e339
  have hn341 : ah_n h338 w53 = 134 := by rw [e339]; exact hn335
  have hk342 : ah_k h338 t = 12 := by rw [e339]; exact hk336
  have hk343 : ah_k h338 w53 = 13 := by rw [e339]; exact hk337
  refine ab_dup dX12_init_319 rfl ?_
  refine ab_bipush (v := 47) dX12_init_320 (by decide) ?_
  refine ab_bipush (v := 104) dX12_init_322 (by decide) ?_
  refine ab_bast hk343 (by rw [hn341]; unfold vp_in; decide) dX12_init_324 ?_
  refine Wp.nm fun h344 e345 => ?_
  have ht := ht h344 e345
  have hn347 : ah_n h344 w53 = 134 := by rw [e345]; exact hn341
  have hk348 : ah_k h344 t = 12 := by rw [e345]; exact hk342
  have hk349 : ah_k h344 w53 = 13 := by rw [e345]; exact hk343
  refine ab_dup dX12_init_325 rfl ?_
  refine ab_bipush (v := 48) dX12_init_326 (by decide) ?_
  refine ab_bipush (v := 101) dX12_init_328 (by decide) ?_
  refine ab_bast hk349 (by rw [hn347]; unfold vp_in; decide) dX12_init_330 ?_
  refine Wp.nm fun h350 e351 => ?_
  have ht := ht h350 e351
  have hn353 : ah_n h350 w53 = 134 := by rw [e351]; exact hn347
  have hk354 : ah_k h350 t = 12 := by rw [e351]; exact hk348
  have hk355 : ah_k h350 w53 = 13 := by rw [e351]; exact hk349
  refine ab_dup dX12_init_331 rfl ?_
  refine ab_bipush (v := 49) dX12_init_332 (by decide) ?_
  refine ab_bipush (v := 114) dX12_init_334 (by decide) ?_
  refine ab_bast hk355 (by rw [hn353]; unfold vp_in; decide) dX12_init_336 ?_
  refine Wp.nm fun h356 e357 => ?_
  have ht := ht h356 e357
  have hn359 : ah_n h356 w53 = 134 := by rw [e357]; exact hn353
  have hk360 : ah_k h356 t = 12 := by rw [e357]; exact hk354
  have hk361 : ah_k h356 w53 = 13 := by rw [e357]; exact hk355
  refine ab_dup dX12_init_337 rfl ?_
  refine ab_bipush (v := 50) dX12_init_338 (by decide) ?_
  refine ab_bipush (v := 32) dX12_init_340 (by decide) ?_
  refine ab_bast hk361 (by rw [hn359]; unfold vp_in; decide) dX12_init_342 ?_
  refine Wp.nm fun h362 e363 => ?_
  have ht := ht h362 e363
  have hn365 : ah_n h362 w53 = 134 := by rw [e363]; exact hn359
  have hk366 : ah_k h362 t = 12 := by rw [e363]; exact hk360
  have hk367 : ah_k h362 w53 = 13 := by rw [e363]; exact hk361
  refine ab_dup dX12_init_343 rfl ?_
  refine ab_bipush (v := 51) dX12_init_344 (by decide) ?_
  refine ab_bipush (v := 110) dX12_init_346 (by decide) ?_
  refine ab_bast hk367 (by rw [hn365]; unfold vp_in; decide) dX12_init_348 ?_
  refine Wp.nm fun h368 e369 => ?_
  have ht := ht h368 e369
  have hn371 : ah_n h368 w53 = 134 := by rw [e369]; exact hn365
  have hk372 : ah_k h368 t = 12 := by rw [e369]; exact hk366
  have hk373 : ah_k h368 w53 = 13 := by rw [e369]; exact hk367
  refine ab_dup dX12_init_349 rfl ?_
  refine ab_bipush (v := 52) dX12_init_350 (by decide) ?_
  refine ab_bipush (v := 101) dX12_init_352 (by decide) ?_
  refine ab_bast hk373 (by rw [hn371]; unfold vp_in; decide) dX12_init_354 ?_
  refine Wp.nm fun h374 e375 => ?_
  have ht := ht h374 e375
  have hn377 : ah_n h374 w53 = 134 := by rw [e375]; exact hn371
  have hk378 : ah_k h374 t = 12 := by rw [e375]; exact hk372
  have hk379 : ah_k h374 w53 = 13 := by rw [e375]; exact hk373
  refine ab_dup dX12_init_355 rfl ?_
  refine ab_bipush (v := 53) dX12_init_356 (by decide) ?_
  refine ab_bipush (v := 97) dX12_init_358 (by decide) ?_
  refine ab_bast hk379 (by rw [hn377]; unfold vp_in; decide) dX12_init_360 ?_
  refine Wp.nm fun h380 e381 => ?_
  have ht := ht h380 e381
  have hn383 : ah_n h380 w53 = 134 := by rw [e381]; exact hn377
  have hk384 : ah_k h380 t = 12 := by rw [e381]; exact hk378
  have hk385 : ah_k h380 w53 = 13 := by rw [e381]; exact hk379
  refine ab_dup dX12_init_361 rfl ?_
  refine ab_bipush (v := 54) dX12_init_362 (by decide) ?_
  refine ab_bipush (v := 114) dX12_init_364 (by decide) ?_
  refine ab_bast hk385 (by rw [hn383]; unfold vp_in; decide) dX12_init_366 ?_
  refine Wp.nm fun h386 e387 => ?_
  have ht := ht h386 e387
  have hn389 : ah_n h386 w53 = 134 := by rw [e387]; exact hn383
  have hk390 : ah_k h386 t = 12 := by rw [e387]; exact hk384
  have hk391 : ah_k h386 w53 = 13 := by rw [e387]; exact hk385
  refine ab_dup dX12_init_367 rfl ?_
  refine ab_bipush (v := 55) dX12_init_368 (by decide) ?_
  refine ab_bipush (v := 32) dX12_init_370 (by decide) ?_
  refine ab_bast hk391 (by rw [hn389]; unfold vp_in; decide) dX12_init_372 ?_
  refine Wp.nm fun h392 e393 => ?_
  have ht := ht h392 e393
  have hn395 : ah_n h392 w53 = 134 := by rw [e393]; exact hn389
  have hk396 : ah_k h392 t = 12 := by rw [e393]; exact hk390
  have hk397 : ah_k h392 w53 = 13 := by rw [e393]; exact hk391
  refine ab_dup dX12_init_373 rfl ?_
  refine ab_bipush (v := 56) dX12_init_374 (by decide) ?_
  refine ab_bipush (v := 108) dX12_init_376 (by decide) ?_
  refine ab_bast hk397 (by rw [hn395]; unfold vp_in; decide) dX12_init_378 ?_
  refine Wp.nm fun h398 e399 => ?_
  have ht := ht h398 e399
  have hn401 : ah_n h398 w53 = 134 := by rw [e399]; exact hn395
  have hk402 : ah_k h398 t = 12 := by rw [e399]; exact hk396
  have hk403 : ah_k h398 w53 = 13 := by rw [e399]; exact hk397
  refine ab_dup dX12_init_379 rfl ?_
  refine ab_bipush (v := 57) dX12_init_380 (by decide) ?_
  refine ab_bipush (v := 97) dX12_init_382 (by decide) ?_
  refine ab_bast hk403 (by rw [hn401]; unfold vp_in; decide) dX12_init_384 ?_
  refine Wp.nm fun h404 e405 => ?_
  have ht := ht h404 e405
  have hn407 : ah_n h404 w53 = 134 := by rw [e405]; exact hn401
  have hk408 : ah_k h404 t = 12 := by rw [e405]; exact hk402
  have hk409 : ah_k h404 w53 = 13 := by rw [e405]; exact hk403
  refine ab_dup dX12_init_385 rfl ?_
  refine ab_bipush (v := 58) dX12_init_386 (by decide) ?_
  refine ab_bipush (v := 116) dX12_init_388 (by decide) ?_
  refine ab_bast hk409 (by rw [hn407]; unfold vp_in; decide) dX12_init_390 ?_
  refine Wp.nm fun h410 e411 => ?_
  have ht := ht h410 e411
  have hn413 : ah_n h410 w53 = 134 := by rw [e411]; exact hn407
  have hk414 : ah_k h410 t = 12 := by rw [e411]; exact hk408
  have hk415 : ah_k h410 w53 = 13 := by rw [e411]; exact hk409
  refine ab_dup dX12_init_391 rfl ?_
  refine ab_bipush (v := 59) dX12_init_392 (by decide) ?_
  refine ab_bipush (v := 101) dX12_init_394 (by decide) ?_
  refine ab_bast hk415 (by rw [hn413]; unfold vp_in; decide) dX12_init_396 ?_
  refine Wp.nm fun h416 e417 => ?_
  have ht := ht h416 e417
  have hn419 : ah_n h416 w53 = 134 := by rw [e417]; exact hn413
  have hk420 : ah_k h416 t = 12 := by rw [e417]; exact hk414
  have hk421 : ah_k h416 w53 = 13 := by rw [e417]; exact hk415
  refine ab_dup dX12_init_397 rfl ?_
  refine ab_bipush (v := 60) dX12_init_398 (by decide) ?_
  refine ab_bipush (v := 114) dX12_init_400 (by decide) ?_
  refine ab_bast hk421 (by rw [hn419]; unfold vp_in; decide) dX12_init_402 ?_
  refine Wp.nm fun h422 e423 => ?_
  have ht := ht h422 e423
  have hn425 : ah_n h422 w53 = 134 := by rw [e423]; exact hn419
  have hk426 : ah_k h422 t = 12 := by rw [e423]; exact hk420
  have hk427 : ah_k h422 w53 = 13 := by rw [e423]; exact hk421
  refine ab_dup dX12_init_403 rfl ?_
  refine ab_bipush (v := 61) dX12_init_404 (by decide) ?_
  refine ab_bipush (v := 32) dX12_init_406 (by decide) ?_
  refine ab_bast hk427 (by rw [hn425]; unfold vp_in; decide) dX12_init_408 ?_
  refine Wp.nm fun h428 e429 => ?_
  have ht := ht h428 e429
  have hn431 : ah_n h428 w53 = 134 := by rw [e429]; exact hn425
  have hk432 : ah_k h428 t = 12 := by rw [e429]; exact hk426
  have hk433 : ah_k h428 w53 = 13 := by rw [e429]; exact hk427
  refine ab_dup dX12_init_409 rfl ?_
  refine ab_bipush (v := 62) dX12_init_410 (by decide) ?_
  refine ab_bipush (v := 109) dX12_init_412 (by decide) ?_
  refine ab_bast hk433 (by rw [hn431]; unfold vp_in; decide) dX12_init_414 ?_
  refine Wp.nm fun h434 e435 => ?_
  have ht := ht h434 e435
  have hn437 : ah_n h434 w53 = 134 := by rw [e435]; exact hn431
  have hk438 : ah_k h434 t = 12 := by rw [e435]; exact hk432
  have hk439 : ah_k h434 w53 = 13 := by rw [e435]; exact hk433
  refine ab_dup dX12_init_415 rfl ?_
  refine ab_bipush (v := 63) dX12_init_416 (by decide) ?_
  refine ab_bipush (v := 105) dX12_init_418 (by decide) ?_
  refine ab_bast hk439 (by rw [hn437]; unfold vp_in; decide) dX12_init_420 ?_
  refine Wp.nm fun h440 e441 => ?_
  have ht := ht h440 e441
  have hn443 : ah_n h440 w53 = 134 := by rw [e441]; exact hn437
  have hk444 : ah_k h440 t = 12 := by rw [e441]; exact hk438
  have hk445 : ah_k h440 w53 = 13 := by rw [e441]; exact hk439
  refine ab_dup dX12_init_421 rfl ?_
  refine ab_bipush (v := 64) dX12_init_422 (by decide) ?_
  refine ab_bipush (v := 110) dX12_init_424 (by decide) ?_
  refine ab_bast hk445 (by rw [hn443]; unfold vp_in; decide) dX12_init_426 ?_
  refine Wp.nm fun h446 e447 => ?_
  have ht := ht h446 e447
  have hn449 : ah_n h446 w53 = 134 := by rw [e447]; exact hn443
  have hk450 : ah_k h446 t = 12 := by rw [e447]; exact hk444
  have hk451 : ah_k h446 w53 = 13 := by rw [e447]; exact hk445
  refine ab_dup dX12_init_427 rfl ?_
  refine ab_bipush (v := 65) dX12_init_428 (by decide) ?_
  refine ab_bipush (v := 117) dX12_init_430 (by decide) ?_
  refine ab_bast hk451 (by rw [hn449]; unfold vp_in; decide) dX12_init_432 ?_
  refine Wp.nm fun h452 e453 => ?_
  have ht := ht h452 e453
  have hn455 : ah_n h452 w53 = 134 := by rw [e453]; exact hn449
  have hk456 : ah_k h452 t = 12 := by rw [e453]; exact hk450
  have hk457 : ah_k h452 w53 = 13 := by rw [e453]; exact hk451
  refine ab_dup dX12_init_433 rfl ?_
  refine ab_bipush (v := 66) dX12_init_434 (by decide) ?_
  refine ab_bipush (v := 116) dX12_init_436 (by decide) ?_
  refine ab_bast hk457 (by rw [hn455]; unfold vp_in; decide) dX12_init_438 ?_
  refine Wp.nm fun h458 e459 => ?_
  have ht := ht h458 e459
  have hn461 : ah_n h458 w53 = 134 := by rw [e459]; exact hn455
  have hk462 : ah_k h458 t = 12 := by rw [e459]; exact hk456
  have hk463 : ah_k h458 w53 = 13 := by rw [e459]; exact hk457
  refine ab_dup dX12_init_439 rfl ?_
  refine ab_bipush (v := 67) dX12_init_440 (by decide) ?_
  refine ab_bipush (v := 101) dX12_init_442 (by decide) ?_
  refine ab_bast hk463 (by rw [hn461]; unfold vp_in; decide) dX12_init_444 ?_
  refine Wp.nm fun h464 e465 => ?_
  have ht := ht h464 e465
  have hn467 : ah_n h464 w53 = 134 := by rw [e465]; exact hn461
  have hk468 : ah_k h464 t = 12 := by rw [e465]; exact hk462
  have hk469 : ah_k h464 w53 = 13 := by rw [e465]; exact hk463
  refine ab_dup dX12_init_445 rfl ?_
  refine ab_bipush (v := 68) dX12_init_446 (by decide) ?_
  refine ab_bipush (v := 32) dX12_init_448 (by decide) ?_
  refine ab_bast hk469 (by rw [hn467]; unfold vp_in; decide) dX12_init_450 ?_
  refine Wp.nm fun h470 e471 => ?_
  have ht := ht h470 e471
  have hn473 : ah_n h470 w53 = 134 := by rw [e471]; exact hn467
  have hk474 : ah_k h470 t = 12 := by rw [e471]; exact hk468
  have hk475 : ah_k h470 w53 = 13 := by rw [e471]; exact hk469
  refine ab_dup dX12_init_451 rfl ?_
  refine ab_bipush (v := 69) dX12_init_452 (by decide) ?_
  refine ab_bipush (v := 119) dX12_init_454 (by decide) ?_
  refine ab_bast hk475 (by rw [hn473]; unfold vp_in; decide) dX12_init_456 ?_
  refine Wp.nm fun h476 e477 => ?_
  have ht := ht h476 e477
  have hn479 : ah_n h476 w53 = 134 := by rw [e477]; exact hn473
  have hk480 : ah_k h476 t = 12 := by rw [e477]; exact hk474
  have hk481 : ah_k h476 w53 = 13 := by rw [e477]; exact hk475
  refine ab_dup dX12_init_457 rfl ?_
  refine ab_bipush (v := 70) dX12_init_458 (by decide) ?_
  refine ab_bipush (v := 105) dX12_init_460 (by decide) ?_
  refine ab_bast hk481 (by rw [hn479]; unfold vp_in; decide) dX12_init_462 ?_
  refine Wp.nm fun h482 e483 => ?_
  have ht := ht h482 e483
  have hn485 : ah_n h482 w53 = 134 := by rw [e483]; exact hn479
  have hk486 : ah_k h482 t = 12 := by rw [e483]; exact hk480
  have hk487 : ah_k h482 w53 = 13 := by rw [e483]; exact hk481
  refine ab_dup dX12_init_463 rfl ?_
  refine ab_bipush (v := 71) dX12_init_464 (by decide) ?_
  refine ab_bipush (v := 110) dX12_init_466 (by decide) ?_
  refine ab_bast hk487 (by rw [hn485]; unfold vp_in; decide) dX12_init_468 ?_
  refine Wp.nm fun h488 e489 => ?_
  have ht := ht h488 e489
  have hn491 : ah_n h488 w53 = 134 := by rw [e489]; exact hn485
  have hk492 : ah_k h488 t = 12 := by rw [e489]; exact hk486
  have hk493 : ah_k h488 w53 = 13 := by rw [e489]; exact hk487
  refine ab_dup dX12_init_469 rfl ?_
  refine ab_bipush (v := 72) dX12_init_470 (by decide) ?_
  refine ab_bipush (v := 100) dX12_init_472 (by decide) ?_
  refine ab_bast hk493 (by rw [hn491]; unfold vp_in; decide) dX12_init_474 ?_
  refine Wp.nm fun h494 e495 => ?_
  have ht := ht h494 e495
  have hn497 : ah_n h494 w53 = 134 := by rw [e495]; exact hn491
  have hk498 : ah_k h494 t = 12 := by rw [e495]; exact hk492
  have hk499 : ah_k h494 w53 = 13 := by rw [e495]; exact hk493
  refine ab_dup dX12_init_475 rfl ?_
  refine ab_bipush (v := 73) dX12_init_476 (by decide) ?_
  refine ab_bipush (v := 32) dX12_init_478 (by decide) ?_
  refine ab_bast hk499 (by rw [hn497]; unfold vp_in; decide) dX12_init_480 ?_
  refine Wp.nm fun h500 e501 => ?_
  have ht := ht h500 e501
  have hn503 : ah_n h500 w53 = 134 := by rw [e501]; exact hn497
  have hk504 : ah_k h500 t = 12 := by rw [e501]; exact hk498
  have hk505 : ah_k h500 w53 = 13 := by rw [e501]; exact hk499
  refine ab_dup dX12_init_481 rfl ?_
  refine ab_bipush (v := 74) dX12_init_482 (by decide) ?_
  refine ab_bipush (v := 109) dX12_init_484 (by decide) ?_
  refine ab_bast hk505 (by rw [hn503]; unfold vp_in; decide) dX12_init_486 ?_
  refine Wp.nm fun h506 e507 => ?_
  have ht := ht h506 e507
  have hn509 : ah_n h506 w53 = 134 := by rw [e507]; exact hn503
  have hk510 : ah_k h506 t = 12 := by rw [e507]; exact hk504
  have hk511 : ah_k h506 w53 = 13 := by rw [e507]; exact hk505
  refine ab_dup dX12_init_487 rfl ?_
  refine ab_bipush (v := 75) dX12_init_488 (by decide) ?_
  refine ab_bipush (v := 111) dX12_init_490 (by decide) ?_
  refine ab_bast hk511 (by rw [hn509]; unfold vp_in; decide) dX12_init_492 ?_
  refine Wp.nm fun h512 e513 => ?_
  have ht := ht h512 e513
  have hn515 : ah_n h512 w53 = 134 := by rw [e513]; exact hn509
  have hk516 : ah_k h512 t = 12 := by rw [e513]; exact hk510
  have hk517 : ah_k h512 w53 = 13 := by rw [e513]; exact hk511
  refine ab_dup dX12_init_493 rfl ?_
  refine ab_bipush (v := 76) dX12_init_494 (by decide) ?_
  refine ab_bipush (v := 111) dX12_init_496 (by decide) ?_
  refine ab_bast hk517 (by rw [hn515]; unfold vp_in; decide) dX12_init_498 ?_
  refine Wp.nm fun h518 e519 => ?_
  have ht := ht h518 e519
  have hn521 : ah_n h518 w53 = 134 := by rw [e519]; exact hn515
  have hk522 : ah_k h518 t = 12 := by rw [e519]; exact hk516
  have hk523 : ah_k h518 w53 = 13 := by rw [e519]; exact hk517
  refine ab_dup dX12_init_499 rfl ?_
  refine ab_bipush (v := 77) dX12_init_500 (by decide) ?_
  refine ab_bipush (v := 100) dX12_init_502 (by decide) ?_
  refine ab_bast hk523 (by rw [hn521]; unfold vp_in; decide) dX12_init_504 ?_
  refine Wp.nm fun h524 e525 => ?_
  have ht := ht h524 e525
  have hn527 : ah_n h524 w53 = 134 := by rw [e525]; exact hn521
  have hk528 : ah_k h524 t = 12 := by rw [e525]; exact hk522
  have hk529 : ah_k h524 w53 = 13 := by rw [e525]; exact hk523
  refine ab_dup dX12_init_505 rfl ?_
  refine ab_bipush (v := 78) dX12_init_506 (by decide) ?_
  refine ab_bipush (v := 32) dX12_init_508 (by decide) ?_
  refine ab_bast hk529 (by rw [hn527]; unfold vp_in; decide) dX12_init_510 ?_
  refine Wp.nm fun h530 e531 => ?_
  have ht := ht h530 e531
  have hn533 : ah_n h530 w53 = 134 := by rw [e531]; exact hn527
  have hk534 : ah_k h530 t = 12 := by rw [e531]; exact hk528
  have hk535 : ah_k h530 w53 = 13 := by rw [e531]; exact hk529
  refine ab_dup dX12_init_511 rfl ?_
  refine ab_bipush (v := 79) dX12_init_512 (by decide) ?_
  refine ab_bipush (v := 108) dX12_init_514 (by decide) ?_
  refine ab_bast hk535 (by rw [hn533]; unfold vp_in; decide) dX12_init_516 ?_
  refine Wp.nm fun h536 e537 => ?_
  have ht := ht h536 e537
  have hn539 : ah_n h536 w53 = 134 := by rw [e537]; exact hn533
  have hk540 : ah_k h536 t = 12 := by rw [e537]; exact hk534
  have hk541 : ah_k h536 w53 = 13 := by rw [e537]; exact hk535
  refine ab_dup dX12_init_517 rfl ?_
  refine ab_bipush (v := 80) dX12_init_518 (by decide) ?_
  refine ab_bipush (v := 97) dX12_init_520 (by decide) ?_
  refine ab_bast hk541 (by rw [hn539]; unfold vp_in; decide) dX12_init_522 ?_
  refine Wp.nm fun h542 e543 => ?_
  have ht := ht h542 e543
  have hn545 : ah_n h542 w53 = 134 := by rw [e543]; exact hn539
  have hk546 : ah_k h542 t = 12 := by rw [e543]; exact hk540
  have hk547 : ah_k h542 w53 = 13 := by rw [e543]; exact hk541
  refine ab_dup dX12_init_523 rfl ?_
  refine ab_bipush (v := 81) dX12_init_524 (by decide) ?_
  refine ab_bipush (v := 109) dX12_init_526 (by decide) ?_
  refine ab_bast hk547 (by rw [hn545]; unfold vp_in; decide) dX12_init_528 ?_
  refine Wp.nm fun h548 e549 => ?_
  have ht := ht h548 e549
  have hn551 : ah_n h548 w53 = 134 := by rw [e549]; exact hn545
  have hk552 : ah_k h548 t = 12 := by rw [e549]; exact hk546
  have hk553 : ah_k h548 w53 = 13 := by rw [e549]; exact hk547
  refine ab_dup dX12_init_529 rfl ?_
  refine ab_bipush (v := 82) dX12_init_530 (by decide) ?_
  refine ab_bipush (v := 112) dX12_init_532 (by decide) ?_
  refine ab_bast hk553 (by rw [hn551]; unfold vp_in; decide) dX12_init_534 ?_
  refine Wp.nm fun h554 e555 => ?_
  have ht := ht h554 e555
  have hn557 : ah_n h554 w53 = 134 := by rw [e555]; exact hn551
  have hk558 : ah_k h554 t = 12 := by rw [e555]; exact hk552
  have hk559 : ah_k h554 w53 = 13 := by rw [e555]; exact hk553
  refine ab_dup dX12_init_535 rfl ?_
  refine ab_bipush (v := 83) dX12_init_536 (by decide) ?_
  refine ab_bipush (v := 115) dX12_init_538 (by decide) ?_
  refine ab_bast hk559 (by rw [hn557]; unfold vp_in; decide) dX12_init_540 ?_
  refine Wp.nm fun h560 e561 => ?_
  have ht := ht h560 e561
  have hn563 : ah_n h560 w53 = 134 := by rw [e561]; exact hn557
  have hk564 : ah_k h560 t = 12 := by rw [e561]; exact hk558
  have hk565 : ah_k h560 w53 = 13 := by rw [e561]; exact hk559
  refine ab_dup dX12_init_541 rfl ?_
  refine ab_bipush (v := 84) dX12_init_542 (by decide) ?_
  refine ab_bipush (v := 32) dX12_init_544 (by decide) ?_
  refine ab_bast hk565 (by rw [hn563]; unfold vp_in; decide) dX12_init_546 ?_
  refine Wp.nm fun h566 e567 => ?_
  have ht := ht h566 e567
  have hn569 : ah_n h566 w53 = 134 := by rw [e567]; exact hn563
  have hk570 : ah_k h566 t = 12 := by rw [e567]; exact hk564
  have hk571 : ah_k h566 w53 = 13 := by rw [e567]; exact hk565
  refine ab_dup dX12_init_547 rfl ?_
  refine ab_bipush (v := 85) dX12_init_548 (by decide) ?_
  refine ab_bipush (v := 115) dX12_init_550 (by decide) ?_
  refine ab_bast hk571 (by rw [hn569]; unfold vp_in; decide) dX12_init_552 ?_
  refine Wp.nm fun h572 e573 => ?_
  have ht := ht h572 e573
  have hn575 : ah_n h572 w53 = 134 := by rw [e573]; exact hn569
  have hk576 : ah_k h572 t = 12 := by rw [e573]; exact hk570
  have hk577 : ah_k h572 w53 = 13 := by rw [e573]; exact hk571
  refine ab_dup dX12_init_553 rfl ?_
  refine ab_bipush (v := 86) dX12_init_554 (by decide) ?_
  refine ab_bipush (v := 119) dX12_init_556 (by decide) ?_
  refine ab_bast hk577 (by rw [hn575]; unfold vp_in; decide) dX12_init_558 ?_
  refine Wp.nm fun h578 e579 => ?_
  have ht := ht h578 e579
  have hn581 : ah_n h578 w53 = 134 := by rw [e579]; exact hn575
  have hk582 : ah_k h578 t = 12 := by rw [e579]; exact hk576
  have hk583 : ah_k h578 w53 = 13 := by rw [e579]; exact hk577
  refine ab_dup dX12_init_559 rfl ?_
  refine ab_bipush (v := 87) dX12_init_560 (by decide) ?_
  refine ab_bipush (v := 105) dX12_init_562 (by decide) ?_
  refine ab_bast hk583 (by rw [hn581]; unfold vp_in; decide) dX12_init_564 ?_
  refine Wp.nm fun h584 e585 => ?_
  have ht := ht h584 e585
  have hn587 : ah_n h584 w53 = 134 := by rw [e585]; exact hn581
  have hk588 : ah_k h584 t = 12 := by rw [e585]; exact hk582
  have hk589 : ah_k h584 w53 = 13 := by rw [e585]; exact hk583
  refine ab_dup dX12_init_565 rfl ?_
  refine ab_bipush (v := 88) dX12_init_566 (by decide) ?_
  refine ab_bipush (v := 116) dX12_init_568 (by decide) ?_
  refine ab_bast hk589 (by rw [hn587]; unfold vp_in; decide) dX12_init_570 ?_
  refine Wp.nm fun h590 e591 => ?_
  have ht := ht h590 e591
  have hn593 : ah_n h590 w53 = 134 := by rw [e591]; exact hn587
  have hk594 : ah_k h590 t = 12 := by rw [e591]; exact hk588
  have hk595 : ah_k h590 w53 = 13 := by rw [e591]; exact hk589
  refine ab_dup dX12_init_571 rfl ?_
  refine ab_bipush (v := 89) dX12_init_572 (by decide) ?_
  refine ab_bipush (v := 99) dX12_init_574 (by decide) ?_
  refine ab_bast hk595 (by rw [hn593]; unfold vp_in; decide) dX12_init_576 ?_
  refine Wp.nm fun h596 e597 => ?_
  have ht := ht h596 e597
  have hn599 : ah_n h596 w53 = 134 := by rw [e597]; exact hn593
  have hk600 : ah_k h596 t = 12 := by rw [e597]; exact hk594
  have hk601 : ah_k h596 w53 = 13 := by rw [e597]; exact hk595
  refine ab_dup dX12_init_577 rfl ?_
  refine ab_bipush (v := 90) dX12_init_578 (by decide) ?_
  refine ab_bipush (v := 104) dX12_init_580 (by decide) ?_
  refine ab_bast hk601 (by rw [hn599]; unfold vp_in; decide) dX12_init_582 ?_
  refine Wp.nm fun h602 e603 => ?_
  have ht := ht h602 e603
  have hn605 : ah_n h602 w53 = 134 := by rw [e603]; exact hn599
  have hk606 : ah_k h602 t = 12 := by rw [e603]; exact hk600
  have hk607 : ah_k h602 w53 = 13 := by rw [e603]; exact hk601
  refine ab_dup dX12_init_583 rfl ?_
  refine ab_bipush (v := 91) dX12_init_584 (by decide) ?_
  refine ab_bipush (v := 101) dX12_init_586 (by decide) ?_
  refine ab_bast hk607 (by rw [hn605]; unfold vp_in; decide) dX12_init_588 ?_
  refine Wp.nm fun h608 e609 => ?_
  have ht := ht h608 e609
  have hn611 : ah_n h608 w53 = 134 := by rw [e609]; exact hn605
  have hk612 : ah_k h608 t = 12 := by rw [e609]; exact hk606
  have hk613 : ah_k h608 w53 = 13 := by rw [e609]; exact hk607
  refine ab_dup dX12_init_589 rfl ?_
  refine ab_bipush (v := 92) dX12_init_590 (by decide) ?_
  refine ab_bipush (v := 115) dX12_init_592 (by decide) ?_
  refine ab_bast hk613 (by rw [hn611]; unfold vp_in; decide) dX12_init_594 ?_
  refine Wp.nm fun h614 e615 => ?_
  have ht := ht h614 e615
  have hn617 : ah_n h614 w53 = 134 := by rw [e615]; exact hn611
  have hk618 : ah_k h614 t = 12 := by rw [e615]; exact hk612
  have hk619 : ah_k h614 w53 = 13 := by rw [e615]; exact hk613
  refine ab_dup dX12_init_595 rfl ?_
  refine ab_bipush (v := 93) dX12_init_596 (by decide) ?_
  refine ab_bipush (v := 32) dX12_init_598 (by decide) ?_
  refine ab_bast hk619 (by rw [hn617]; unfold vp_in; decide) dX12_init_600 ?_
  refine Wp.nm fun h620 e621 => ?_
  have ht := ht h620 e621
  have hn623 : ah_n h620 w53 = 134 := by rw [e621]; exact hn617
  have hk624 : ah_k h620 t = 12 := by rw [e621]; exact hk618
  have hk625 : ah_k h620 w53 = 13 := by rw [e621]; exact hk619
  refine ab_dup dX12_init_601 rfl ?_
  refine ab_bipush (v := 94) dX12_init_602 (by decide) ?_
  refine ab_bipush (v := 108) dX12_init_604 (by decide) ?_
  refine ab_bast hk625 (by rw [hn623]; unfold vp_in; decide) dX12_init_606 ?_
  refine Wp.nm fun h626 e627 => ?_
  have ht := ht h626 e627
  have hn629 : ah_n h626 w53 = 134 := by rw [e627]; exact hn623
  have hk630 : ah_k h626 t = 12 := by rw [e627]; exact hk624
  have hk631 : ah_k h626 w53 = 13 := by rw [e627]; exact hk625
  refine ab_dup dX12_init_607 rfl ?_
  refine ab_bipush (v := 95) dX12_init_608 (by decide) ?_
  refine ab_bipush (v := 97) dX12_init_610 (by decide) ?_
  refine ab_bast hk631 (by rw [hn629]; unfold vp_in; decide) dX12_init_612 ?_
  refine Wp.nm fun h632 e633 => ?_
  have ht := ht h632 e633
  have hn635 : ah_n h632 w53 = 134 := by rw [e633]; exact hn629
  have hk636 : ah_k h632 t = 12 := by rw [e633]; exact hk630
  have hk637 : ah_k h632 w53 = 13 := by rw [e633]; exact hk631
  refine ab_dup dX12_init_613 rfl ?_
  refine ab_bipush (v := 96) dX12_init_614 (by decide) ?_
  refine ab_bipush (v := 115) dX12_init_616 (by decide) ?_
  refine ab_bast hk637 (by rw [hn635]; unfold vp_in; decide) dX12_init_618 ?_
  refine Wp.nm fun h638 e639 => ?_
  have ht := ht h638 e639
  have hn641 : ah_n h638 w53 = 134 := by rw [e639]; exact hn635
  have hk642 : ah_k h638 t = 12 := by rw [e639]; exact hk636
  have hk643 : ah_k h638 w53 = 13 := by rw [e639]; exact hk637
  refine ab_dup dX12_init_619 rfl ?_
  refine ab_bipush (v := 97) dX12_init_620 (by decide) ?_
  refine ab_bipush (v := 116) dX12_init_622 (by decide) ?_
  refine ab_bast hk643 (by rw [hn641]; unfold vp_in; decide) dX12_init_624 ?_
  refine Wp.nm fun h644 e645 => ?_
  have ht := ht h644 e645
  have hn647 : ah_n h644 w53 = 134 := by rw [e645]; exact hn641
  have hk648 : ah_k h644 t = 12 := by rw [e645]; exact hk642
  have hk649 : ah_k h644 w53 = 13 := by rw [e645]; exact hk643
  refine ab_dup dX12_init_625 rfl ?_
  refine ab_bipush (v := 98) dX12_init_626 (by decide) ?_
  refine ab_bipush (v := 32) dX12_init_628 (by decide) ?_
  refine ab_bast hk649 (by rw [hn647]; unfold vp_in; decide) dX12_init_630 ?_
  refine Wp.nm fun h650 e651 => ?_
  have ht := ht h650 e651
  have hn653 : ah_n h650 w53 = 134 := by rw [e651]; exact hn647
  have hk654 : ah_k h650 t = 12 := by rw [e651]; exact hk648
  have hk655 : ah_k h650 w53 = 13 := by rw [e651]; exact hk649
  refine ab_dup dX12_init_631 rfl ?_
  refine ab_bipush (v := 99) dX12_init_632 (by decide) ?_
  refine ab_bipush (v := 100) dX12_init_634 (by decide) ?_
  refine ab_bast hk655 (by rw [hn653]; unfold vp_in; decide) dX12_init_636 ?_
  refine Wp.nm fun h656 e657 => ?_
  have ht := ht h656 e657
  have hn659 : ah_n h656 w53 = 134 := by rw [e657]; exact hn653
  have hk660 : ah_k h656 t = 12 := by rw [e657]; exact hk654
  have hk661 : ah_k h656 w53 = 13 := by rw [e657]; exact hk655
  refine ab_dup dX12_init_637 rfl ?_
  refine ab_bipush (v := 100) dX12_init_638 (by decide) ?_
  refine ab_bipush (v := 111) dX12_init_640 (by decide) ?_
  refine ab_bast hk661 (by rw [hn659]; unfold vp_in; decide) dX12_init_642 ?_
  refine Wp.nm fun h662 e663 => ?_
  have ht := ht h662 e663
  have hn665 : ah_n h662 w53 = 134 := by rw [e663]; exact hn659
  have hk666 : ah_k h662 t = 12 := by rw [e663]; exact hk660
  have hk667 : ah_k h662 w53 = 13 := by rw [e663]; exact hk661
  refine ab_dup dX12_init_643 rfl ?_
  refine ab_bipush (v := 101) dX12_init_644 (by decide) ?_
  refine ab_bipush (v := 110) dX12_init_646 (by decide) ?_
  refine ab_bast hk667 (by rw [hn665]; unfold vp_in; decide) dX12_init_648 ?_
  refine Wp.nm fun h668 e669 => ?_
  have ht := ht h668 e669
  have hn671 : ah_n h668 w53 = 134 := by rw [e669]; exact hn665
  have hk672 : ah_k h668 t = 12 := by rw [e669]; exact hk666
  have hk673 : ah_k h668 w53 = 13 := by rw [e669]; exact hk667
  refine ab_dup dX12_init_649 rfl ?_
  refine ab_bipush (v := 102) dX12_init_650 (by decide) ?_
  refine ab_bipush (v := 101) dX12_init_652 (by decide) ?_
  refine ab_bast hk673 (by rw [hn671]; unfold vp_in; decide) dX12_init_654 ?_
  refine Wp.nm fun h674 e675 => ?_
  have ht := ht h674 e675
  have hn677 : ah_n h674 w53 = 134 := by rw [e675]; exact hn671
  have hk678 : ah_k h674 t = 12 := by rw [e675]; exact hk672
  have hk679 : ah_k h674 w53 = 13 := by rw [e675]; exact hk673
  refine ab_dup dX12_init_655 rfl ?_
  refine ab_bipush (v := 103) dX12_init_656 (by decide) ?_
  refine ab_bipush (v := 32) dX12_init_658 (by decide) ?_
  refine ab_bast hk679 (by rw [hn677]; unfold vp_in; decide) dX12_init_660 ?_
  refine Wp.nm fun h680 e681 => ?_
  have ht := ht h680 e681
  have hn683 : ah_n h680 w53 = 134 := by rw [e681]; exact hn677
  have hk684 : ah_k h680 t = 12 := by rw [e681]; exact hk678
  have hk685 : ah_k h680 w53 = 13 := by rw [e681]; exact hk679
  refine ab_dup dX12_init_661 rfl ?_
  refine ab_bipush (v := 104) dX12_init_662 (by decide) ?_
  refine ab_bipush (v := 114) dX12_init_664 (by decide) ?_
  refine ab_bast hk685 (by rw [hn683]; unfold vp_in; decide) dX12_init_666 ?_
  refine Wp.nm fun h686 e687 => ?_
  have ht := ht h686 e687
  have hn689 : ah_n h686 w53 = 134 := by rw [e687]; exact hn683
  have hk690 : ah_k h686 t = 12 := by rw [e687]; exact hk684
  have hk691 : ah_k h686 w53 = 13 := by rw [e687]; exact hk685
  refine ab_dup dX12_init_667 rfl ?_
  refine ab_bipush (v := 105) dX12_init_668 (by decide) ?_
  refine ab_bipush (v := 117) dX12_init_670 (by decide) ?_
  refine ab_bast hk691 (by rw [hn689]; unfold vp_in; decide) dX12_init_672 ?_
  refine Wp.nm fun h692 e693 => ?_
  have ht := ht h692 e693
  have hn695 : ah_n h692 w53 = 134 := by rw [e693]; exact hn689
  have hk696 : ah_k h692 t = 12 := by rw [e693]; exact hk690
  have hk697 : ah_k h692 w53 = 13 := by rw [e693]; exact hk691
  refine ab_dup dX12_init_673 rfl ?_
  refine ab_bipush (v := 106) dX12_init_674 (by decide) ?_
  refine ab_bipush (v := 110) dX12_init_676 (by decide) ?_
  refine ab_bast hk697 (by rw [hn695]; unfold vp_in; decide) dX12_init_678 ?_
  refine Wp.nm fun h698 e699 => ?_
  have ht := ht h698 e699
  have hn701 : ah_n h698 w53 = 134 := by rw [e699]; exact hn695
  have hk702 : ah_k h698 t = 12 := by rw [e699]; exact hk696
  have hk703 : ah_k h698 w53 = 13 := by rw [e699]; exact hk697
  refine ab_dup dX12_init_679 rfl ?_
  refine ab_bipush (v := 107) dX12_init_680 (by decide) ?_
  refine ab_bipush (v := 32) dX12_init_682 (by decide) ?_
  refine ab_bast hk703 (by rw [hn701]; unfold vp_in; decide) dX12_init_684 ?_
  refine Wp.nm fun h704 e705 => ?_
  have ht := ht h704 e705
  have hn707 : ah_n h704 w53 = 134 := by rw [e705]; exact hn701
  have hk708 : ah_k h704 t = 12 := by rw [e705]; exact hk702
  have hk709 : ah_k h704 w53 = 13 := by rw [e705]; exact hk703
  refine ab_dup dX12_init_685 rfl ?_
  refine ab_bipush (v := 108) dX12_init_686 (by decide) ?_
  refine ab_bipush (v := 108) dX12_init_688 (by decide) ?_
  refine ab_bast hk709 (by rw [hn707]; unfold vp_in; decide) dX12_init_690 ?_
  refine Wp.nm fun h710 e711 => ?_
  have ht := ht h710 e711
  have hn713 : ah_n h710 w53 = 134 := by rw [e711]; exact hn707
  have hk714 : ah_k h710 t = 12 := by rw [e711]; exact hk708
  have hk715 : ah_k h710 w53 = 13 := by rw [e711]; exact hk709
  refine ab_dup dX12_init_691 rfl ?_
  refine ab_bipush (v := 109) dX12_init_692 (by decide) ?_
  refine ab_bipush (v := 105) dX12_init_694 (by decide) ?_
  refine ab_bast hk715 (by rw [hn713]; unfold vp_in; decide) dX12_init_696 ?_
  refine Wp.nm fun h716 e717 => ?_
  have ht := ht h716 e717
  have hn719 : ah_n h716 w53 = 134 := by rw [e717]; exact hn713
  have hk720 : ah_k h716 t = 12 := by rw [e717]; exact hk714
  have hk721 : ah_k h716 w53 = 13 := by rw [e717]; exact hk715
  refine ab_dup dX12_init_697 rfl ?_
  refine ab_bipush (v := 110) dX12_init_698 (by decide) ?_
  refine ab_bipush (v := 103) dX12_init_700 (by decide) ?_
  refine ab_bast hk721 (by rw [hn719]; unfold vp_in; decide) dX12_init_702 ?_
  refine Wp.nm fun h722 e723 => ?_
  have ht := ht h722 e723
  have hn725 : ah_n h722 w53 = 134 := by rw [e723]; exact hn719
  have hk726 : ah_k h722 t = 12 := by rw [e723]; exact hk720
  have hk727 : ah_k h722 w53 = 13 := by rw [e723]; exact hk721
  refine ab_dup dX12_init_703 rfl ?_
  refine ab_bipush (v := 111) dX12_init_704 (by decide) ?_
  refine ab_bipush (v := 104) dX12_init_706 (by decide) ?_
  refine ab_bast hk727 (by rw [hn725]; unfold vp_in; decide) dX12_init_708 ?_
  refine Wp.nm fun h728 e729 => ?_
  have ht := ht h728 e729
  have hn731 : ah_n h728 w53 = 134 := by rw [e729]; exact hn725
  have hk732 : ah_k h728 t = 12 := by rw [e729]; exact hk726
  have hk733 : ah_k h728 w53 = 13 := by rw [e729]; exact hk727
  refine ab_dup dX12_init_709 rfl ?_
  refine ab_bipush (v := 112) dX12_init_710 (by decide) ?_
  refine ab_bipush (v := 116) dX12_init_712 (by decide) ?_
  refine ab_bast hk733 (by rw [hn731]; unfold vp_in; decide) dX12_init_714 ?_
  refine Wp.nm fun h734 e735 => ?_
  have ht := ht h734 e735
  have hn737 : ah_n h734 w53 = 134 := by rw [e735]; exact hn731
  have hk738 : ah_k h734 t = 12 := by rw [e735]; exact hk732
  have hk739 : ah_k h734 w53 = 13 := by rw [e735]; exact hk733
  refine ab_dup dX12_init_715 rfl ?_
  refine ab_bipush (v := 113) dX12_init_716 (by decide) ?_
  refine ab_bipush (v := 32) dX12_init_718 (by decide) ?_
  refine ab_bast hk739 (by rw [hn737]; unfold vp_in; decide) dX12_init_720 ?_
  refine Wp.nm fun h740 e741 => ?_
  have ht := ht h740 e741
  have hn743 : ah_n h740 w53 = 134 := by rw [e741]; exact hn737
  have hk744 : ah_k h740 t = 12 := by rw [e741]; exact hk738
  have hk745 : ah_k h740 w53 = 13 := by rw [e741]; exact hk739
  refine ab_dup dX12_init_721 rfl ?_
  refine ab_bipush (v := 114) dX12_init_722 (by decide) ?_
  refine ab_bipush (v := 115) dX12_init_724 (by decide) ?_
  refine ab_bast hk745 (by rw [hn743]; unfold vp_in; decide) dX12_init_726 ?_
  refine Wp.nm fun h746 e747 => ?_
  have ht := ht h746 e747
  have hn749 : ah_n h746 w53 = 134 := by rw [e747]; exact hn743
  have hk750 : ah_k h746 t = 12 := by rw [e747]; exact hk744
  have hk751 : ah_k h746 w53 = 13 := by rw [e747]; exact hk745
  refine ab_dup dX12_init_727 rfl ?_
  refine ab_bipush (v := 115) dX12_init_728 (by decide) ?_
  refine ab_bipush (v := 110) dX12_init_730 (by decide) ?_
  refine ab_bast hk751 (by rw [hn749]; unfold vp_in; decide) dX12_init_732 ?_
  refine Wp.nm fun h752 e753 => ?_
  have ht := ht h752 e753
  have hn755 : ah_n h752 w53 = 134 := by rw [e753]; exact hn749
  have hk756 : ah_k h752 t = 12 := by rw [e753]; exact hk750
  have hk757 : ah_k h752 w53 = 13 := by rw [e753]; exact hk751
  refine ab_dup dX12_init_733 rfl ?_
  refine ab_bipush (v := 116) dX12_init_734 (by decide) ?_
  refine ab_bipush (v := 117) dX12_init_736 (by decide) ?_
  refine ab_bast hk757 (by rw [hn755]; unfold vp_in; decide) dX12_init_738 ?_
  refine Wp.nm fun h758 e759 => ?_
  have ht := ht h758 e759
  have hn761 : ah_n h758 w53 = 134 := by rw [e759]; exact hn755
  have hk762 : ah_k h758 t = 12 := by rw [e759]; exact hk756
  have hk763 : ah_k h758 w53 = 13 := by rw [e759]; exact hk757
  refine ab_dup dX12_init_739 rfl ?_
  refine ab_bipush (v := 117) dX12_init_740 (by decide) ?_
  refine ab_bipush (v := 102) dX12_init_742 (by decide) ?_
  refine ab_bast hk763 (by rw [hn761]; unfold vp_in; decide) dX12_init_744 ?_
  refine Wp.nm fun h764 e765 => ?_
  have ht := ht h764 e765
  have hn767 : ah_n h764 w53 = 134 := by rw [e765]; exact hn761
  have hk768 : ah_k h764 t = 12 := by rw [e765]; exact hk762
  have hk769 : ah_k h764 w53 = 13 := by rw [e765]; exact hk763
  refine ab_dup dX12_init_745 rfl ?_
  refine ab_bipush (v := 118) dX12_init_746 (by decide) ?_
  refine ab_bipush (v := 102) dX12_init_748 (by decide) ?_
  refine ab_bast hk769 (by rw [hn767]; unfold vp_in; decide) dX12_init_750 ?_
  refine Wp.nm fun h770 e771 => ?_
  have ht := ht h770 e771
  have hn773 : ah_n h770 w53 = 134 := by rw [e771]; exact hn767
  have hk774 : ah_k h770 t = 12 := by rw [e771]; exact hk768
  have hk775 : ah_k h770 w53 = 13 := by rw [e771]; exact hk769
  refine ab_dup dX12_init_751 rfl ?_
  refine ab_bipush (v := 119) dX12_init_752 (by decide) ?_
  refine ab_bipush (v := 32) dX12_init_754 (by decide) ?_
  refine ab_bast hk775 (by rw [hn773]; unfold vp_in; decide) dX12_init_756 ?_
  refine Wp.nm fun h776 e777 => ?_
  have ht := ht h776 e777
  have hn779 : ah_n h776 w53 = 134 := by rw [e777]; exact hn773
  have hk780 : ah_k h776 t = 12 := by rw [e777]; exact hk774
  have hk781 : ah_k h776 w53 = 13 := by rw [e777]; exact hk775
  refine ab_dup dX12_init_757 rfl ?_
  refine ab_bipush (v := 120) dX12_init_758 (by decide) ?_
  refine ab_bipush (v := 97) dX12_init_760 (by decide) ?_
  refine ab_bast hk781 (by rw [hn779]; unfold vp_in; decide) dX12_init_762 ?_
  refine Wp.nm fun h782 e783 => ?_
  have ht := ht h782 e783
  have hn785 : ah_n h782 w53 = 134 := by rw [e783]; exact hn779
  have hk786 : ah_k h782 t = 12 := by rw [e783]; exact hk780
  have hk787 : ah_k h782 w53 = 13 := by rw [e783]; exact hk781
  refine ab_dup dX12_init_763 rfl ?_
  refine ab_bipush (v := 121) dX12_init_764 (by decide) ?_
  refine ab_bipush (v := 116) dX12_init_766 (by decide) ?_
  refine ab_bast hk787 (by rw [hn785]; unfold vp_in; decide) dX12_init_768 ?_
  refine Wp.nm fun h788 e789 => ?_
  have ht := ht h788 e789
  have hn791 : ah_n h788 w53 = 134 := by rw [e789]; exact hn785
  have hk792 : ah_k h788 t = 12 := by rw [e789]; exact hk786
  have hk793 : ah_k h788 w53 = 13 := by rw [e789]; exact hk787
  refine ab_dup dX12_init_769 rfl ?_
  refine ab_bipush (v := 122) dX12_init_770 (by decide) ?_
  refine ab_bipush (v := 32) dX12_init_772 (by decide) ?_
  refine ab_bast hk793 (by rw [hn791]; unfold vp_in; decide) dX12_init_774 ?_
  refine Wp.nm fun h794 e795 => ?_
  have ht := ht h794 e795
  have hn797 : ah_n h794 w53 = 134 := by rw [e795]; exact hn791
  have hk798 : ah_k h794 t = 12 := by rw [e795]; exact hk792
  have hk799 : ah_k h794 w53 = 13 := by rw [e795]; exact hk793
  refine ab_dup dX12_init_775 rfl ?_
  refine ab_bipush (v := 123) dX12_init_776 (by decide) ?_
  refine ab_bipush (v := 101) dX12_init_778 (by decide) ?_
  refine ab_bast hk799 (by rw [hn797]; unfold vp_in; decide) dX12_init_780 ?_
  refine Wp.nm fun h800 e801 => ?_
  have ht := ht h800 e801
  have hn803 : ah_n h800 w53 = 134 := by rw [e801]; exact hn797
  have hk804 : ah_k h800 t = 12 := by rw [e801]; exact hk798
  have hk805 : ah_k h800 w53 = 13 := by rw [e801]; exact hk799
  refine ab_dup dX12_init_781 rfl ?_
  refine ab_bipush (v := 124) dX12_init_782 (by decide) ?_
  refine ab_bipush (v := 97) dX12_init_784 (by decide) ?_
  refine ab_bast hk805 (by rw [hn803]; unfold vp_in; decide) dX12_init_786 ?_
  refine Wp.nm fun h806 e807 => ?_
  have ht := ht h806 e807
  have hn809 : ah_n h806 w53 = 134 := by rw [e807]; exact hn803
  have hk810 : ah_k h806 t = 12 := by rw [e807]; exact hk804
  have hk811 : ah_k h806 w53 = 13 := by rw [e807]; exact hk805
  refine ab_dup dX12_init_787 rfl ?_
  refine ab_bipush (v := 125) dX12_init_788 (by decide) ?_
  refine ab_bipush (v := 99) dX12_init_790 (by decide) ?_
  refine ab_bast hk811 (by rw [hn809]; unfold vp_in; decide) dX12_init_792 ?_
  refine Wp.nm fun h812 e813 => ?_
  have ht := ht h812 e813
  have hn815 : ah_n h812 w53 = 134 := by rw [e813]; exact hn809
  have hk816 : ah_k h812 t = 12 := by rw [e813]; exact hk810
  have hk817 : ah_k h812 w53 = 13 := by rw [e813]; exact hk811
  refine ab_dup dX12_init_793 rfl ?_
  refine ab_bipush (v := 126) dX12_init_794 (by decide) ?_
  refine ab_bipush (v := 104) dX12_init_796 (by decide) ?_
  refine ab_bast hk817 (by rw [hn815]; unfold vp_in; decide) dX12_init_798 ?_
  refine Wp.nm fun h818 e819 => ?_
  have ht := ht h818 e819
  have hn821 : ah_n h818 w53 = 134 := by rw [e819]; exact hn815
  have hk822 : ah_k h818 t = 12 := by rw [e819]; exact hk816
  have hk823 : ah_k h818 w53 = 13 := by rw [e819]; exact hk817
  refine ab_dup dX12_init_799 rfl ?_
  refine ab_bipush (v := 127) dX12_init_800 (by decide) ?_
  refine ab_bipush (v := 32) dX12_init_802 (by decide) ?_
  refine ab_bast hk823 (by rw [hn821]; unfold vp_in; decide) dX12_init_804 ?_
  refine Wp.nm fun h824 e825 => ?_
  have ht := ht h824 e825
  have hn827 : ah_n h824 w53 = 134 := by rw [e825]; exact hn821
  have hk828 : ah_k h824 t = 12 := by rw [e825]; exact hk822
  have hk829 : ah_k h824 w53 = 13 := by rw [e825]; exact hk823
  refine ab_dup dX12_init_805 rfl ?_
  refine ab_sipush (v := 128) dX12_init_806 (by decide) ?_
  refine ab_bipush (v := 116) dX12_init_809 (by decide) ?_
  refine ab_bast hk829 (by rw [hn827]; unfold vp_in; decide) dX12_init_811 ?_
  refine Wp.nm fun h830 e831 => ?_
  have ht := ht h830 e831
  have hn833 : ah_n h830 w53 = 134 := by rw [e831]; exact hn827
  have hk834 : ah_k h830 t = 12 := by rw [e831]; exact hk828
  have hk835 : ah_k h830 w53 = 13 := by rw [e831]; exact hk829
  refine ab_dup dX12_init_812 rfl ?_
  refine ab_sipush (v := 129) dX12_init_813 (by decide) ?_
  refine ab_bipush (v := 105) dX12_init_816 (by decide) ?_
  refine ab_bast hk835 (by rw [hn833]; unfold vp_in; decide) dX12_init_818 ?_
  refine Wp.nm fun h836 e837 => ?_
  have ht := ht h836 e837
  have hn839 : ah_n h836 w53 = 134 := by rw [e837]; exact hn833
  have hk840 : ah_k h836 t = 12 := by rw [e837]; exact hk834
  have hk841 : ah_k h836 w53 = 13 := by rw [e837]; exact hk835
  refine ab_dup dX12_init_819 rfl ?_
  refine ab_sipush (v := 130) dX12_init_820 (by decide) ?_
  refine ab_bipush (v := 109) dX12_init_823 (by decide) ?_
  refine ab_bast hk841 (by rw [hn839]; unfold vp_in; decide) dX12_init_825 ?_
  refine Wp.nm fun h842 e843 => ?_
  have ht := ht h842 e843
  have hn845 : ah_n h842 w53 = 134 := by rw [e843]; exact hn839
  have hk846 : ah_k h842 t = 12 := by rw [e843]; exact hk840
  have hk847 : ah_k h842 w53 = 13 := by rw [e843]; exact hk841
  refine ab_dup dX12_init_826 rfl ?_
  refine ab_sipush (v := 131) dX12_init_827 (by decide) ?_
  refine ab_bipush (v := 101) dX12_init_830 (by decide) ?_
  refine ab_bast hk847 (by rw [hn845]; unfold vp_in; decide) dX12_init_832 ?_
  refine Wp.nm fun h848 e849 => ?_
  have ht := ht h848 e849
  have hn851 : ah_n h848 w53 = 134 := by rw [e849]; exact hn845
  have hk852 : ah_k h848 t = 12 := by rw [e849]; exact hk846
  have hk853 : ah_k h848 w53 = 13 := by rw [e849]; exact hk847
  refine ab_dup dX12_init_833 rfl ?_
  refine ab_sipush (v := 132) dX12_init_834 (by decide) ?_
  refine ab_bipush (v := 115) dX12_init_837 (by decide) ?_
  refine ab_bast hk853 (by rw [hn851]; unfold vp_in; decide) dX12_init_839 ?_
  refine Wp.nm fun h854 e855 => ?_
  have ht := ht h854 e855
  have hn857 : ah_n h854 w53 = 134 := by rw [e855]; exact hn851
  have hk858 : ah_k h854 t = 12 := by rw [e855]; exact hk852
  have hk859 : ah_k h854 w53 = 13 := by rw [e855]; exact hk853
  refine ab_dup dX12_init_840 rfl ?_
  refine ab_sipush (v := 133) dX12_init_841 (by decide) ?_
  refine ab_bipush (v := 32) dX12_init_844 (by decide) ?_
  refine ab_bast hk859 (by rw [hn857]; unfold vp_in; decide) dX12_init_846 ?_
  refine Wp.nm fun h860 e861 => ?_
  have ht := ht h860 e861
  have hn863 : ah_n h860 w53 = 134 := by rw [e861]; exact hn857
  have hk864 : ah_k h860 t = 12 := by rw [e861]; exact hk858
  have hk865 : ah_k h860 w53 = 13 := by rw [e861]; exact hk859
  refine ab_putR (r := (some w53)) f_X12_30 (Or.inr ⟨rfl, rfl, rfl⟩) rfl hk864 (fun x => by cases x <;> rfl) (fun x => by cases x <;> rfl) dX12_init_847 ?_
  refine Wp.nm fun h866 e867 => ?_
  have ht := ht h866 e867
  have hk869 : ah_k h866 t = 12 := by rw [e867]; exact hk864
  refine ab_aload_n (i := 0) dX12_init_850 rfl rfl ?_
  refine ab_sipush (v := 400) dX12_init_851 (by decide) ?_
  refine ab_newa (N := 400) 13 0 .byte (by decide) rfl wa_byte (by decide) (by decide) (by decide) (Nat.le_of_ble_eq_true rfl) (Nat.le_of_ble_eq_true rfl) dX12_init_854 ?_
  obtain ⟨w870, ew871⟩ : ∃ z, z = ah_x h866 := ⟨_, rfl⟩
  rw [← ew871]
  have ht := ht w870 ew871
  refine Wp.nm fun h872 e873 => ?_
  have ht := ht h872 e873
  have hc876 := ht.1
  have ht := ht.2
  have hk875 : ah_k h872 t = 12 := by rw [e873, ah_k_nw, if_neg hc876]; exact hk869
  have hk877 : ah_k h872 w870 = 13 := by rw [e873, ew871, ah_k_nw, if_pos rfl]
  have hn878 : ah_n h872 w870 = 400 := by rw [e873, ew871, ah_n_nw, if_pos rfl]
  refine ab_putR (r := (some w870)) f_X12_34 (Or.inr ⟨rfl, rfl, rfl⟩) rfl hk875 (fun x => by cases x <;> rfl) (fun x => by cases x <;> rfl) dX12_init_856 ?_
  refine Wp.nm fun h879 e880 => ?_
  have ht := ht h879 e880
  have hk882 : ah_k h879 t = 12 := by rw [e880]; exact hk875
  refine ab_aload_n (i := 0) dX12_init_859 rfl rfl ?_
  refine ab_iconst (v := 5) dX12_init_860 (by decide) ?_
  refine ab_newa (N := 5) 14 1 .int (by decide) rfl wa_int (by decide) (by decide) (by decide) (Nat.le_of_ble_eq_true rfl) (Nat.le_of_ble_eq_true rfl) dX12_init_861 ?_
  obtain ⟨w883, ew884⟩ : ∃ z, z = ah_x h879 := ⟨_, rfl⟩
  rw [← ew884]
  have ht := ht w883 ew884
  refine Wp.nm fun h885 e886 => ?_
  have ht := ht h885 e886
  have hc889 := ht.1
  have ht := ht.2
  have hk888 : ah_k h885 t = 12 := by rw [e886, ah_k_nw, if_neg hc889]; exact hk882
  have hk890 : ah_k h885 w883 = 14 := by rw [e886, ew884, ah_k_nw, if_pos rfl]
  have hn891 : ah_n h885 w883 = 5 := by rw [e886, ew884, ah_n_nw, if_pos rfl]
  refine ab_putR (r := (some w883)) f_X12_37 (Or.inr ⟨rfl, rfl, rfl⟩) rfl hk888 (fun x => by cases x <;> rfl) (fun x => by cases x <;> rfl) dX12_init_863 ?_
  refine Wp.nm fun h892 e893 => ?_
  have ht := ht h892 e893
  have hk895 : ah_k h892 t = 12 := by rw [e893]; exact hk888
  refine ab_aload_n (i := 0) dX12_init_866 rfl rfl ?_
  refine ab_iconst (v := (-1)) dX12_init_867 (by decide) ?_
  refine ab_putI f_X12_40 (Or.inl rfl) rfl hk895 rfl rfl dX12_init_868 ?_
  refine Wp.nm fun h896 e897 => ?_
  have ht := ht h896 e897
  have hk899 : ah_k h896 t = 12 := by rw [e897]; exact hk895
  refine ab_aload_n (i := 0) dX12_init_871 rfl rfl ?_
  refine ab_sipush (v := 401) dX12_init_872 (by decide) ?_
  refine ab_newa (N := 401) 14 1 .int (by decide) rfl wa_int (by decide) (by decide) (by decide) (Nat.le_of_ble_eq_true rfl) (Nat.le_of_ble_eq_true rfl) dX12_init_875 ?_
  obtain ⟨w900, ew901⟩ : ∃ z, z = ah_x h896 := ⟨_, rfl⟩
  rw [← ew901]
  have ht := ht w900 ew901
  refine Wp.nm fun h902 e903 => ?_
  have ht := ht h902 e903
  have hc906 := ht.1
  have ht := ht.2
  have hk905 : ah_k h902 t = 12 := by rw [e903, ah_k_nw, if_neg hc906]; exact hk899
  have hk907 : ah_k h902 w900 = 14 := by rw [e903, ew901, ah_k_nw, if_pos rfl]
  have hn908 : ah_n h902 w900 = 401 := by rw [e903, ew901, ah_n_nw, if_pos rfl]
  refine ab_putR (r := (some w900)) f_X12_43 (Or.inr ⟨rfl, rfl, rfl⟩) rfl hk905 (fun x => by cases x <;> rfl) (fun x => by cases x <;> rfl) dX12_init_877 ?_
  refine Wp.nm fun h909 e910 => ?_
  have ht := ht h909 e910
  have hk912 : ah_k h909 t = 12 := by rw [e910]; exact hk905
  refine ab_aload_n (i := 0) dX12_init_880 rfl rfl ?_
  refine ab_sipush (v := 401) dX12_init_881 (by decide) ?_
  refine ab_newa (N := 401) 14 1 .int (by decide) rfl wa_int (by decide) (by decide) (by decide) (Nat.le_of_ble_eq_true rfl) (Nat.le_of_ble_eq_true rfl) dX12_init_884 ?_
  obtain ⟨w913, ew914⟩ : ∃ z, z = ah_x h909 := ⟨_, rfl⟩
  rw [← ew914]
  have ht := ht w913 ew914
  refine Wp.nm fun h915 e916 => ?_
  have ht := ht h915 e916
  have hc919 := ht.1
  have ht := ht.2
  have hk918 : ah_k h915 t = 12 := by rw [e916, ah_k_nw, if_neg hc919]; exact hk912
  have hk920 : ah_k h915 w913 = 14 := by rw [e916, ew914, ah_k_nw, if_pos rfl]
  have hn921 : ah_n h915 w913 = 401 := by rw [e916, ew914, ah_n_nw, if_pos rfl]
  refine ab_putR (r := (some w913)) f_X12_46 (Or.inr ⟨rfl, rfl, rfl⟩) rfl hk918 (fun x => by cases x <;> rfl) (fun x => by cases x <;> rfl) dX12_init_886 ?_
  refine Wp.nm fun h922 e923 => ?_
  have ht := ht h922 e923
  have hk925 : ah_k h922 t = 12 := by rw [e923]; exact hk918
  refine ab_aload_n (i := 0) dX12_init_889 rfl rfl ?_
  refine ab_sipush (v := 401) dX12_init_890 (by decide) ?_
  refine ab_newa (N := 401) 14 1 .int (by decide) rfl wa_int (by decide) (by decide) (by decide) (Nat.le_of_ble_eq_true rfl) (Nat.le_of_ble_eq_true rfl) dX12_init_893 ?_
  obtain ⟨w926, ew927⟩ : ∃ z, z = ah_x h922 := ⟨_, rfl⟩
  rw [← ew927]
  have ht := ht w926 ew927
  refine Wp.nm fun h928 e929 => ?_
  have ht := ht h928 e929
  have hc932 := ht.1
  have ht := ht.2
  have hk931 : ah_k h928 t = 12 := by rw [e929, ah_k_nw, if_neg hc932]; exact hk925
  have hk933 : ah_k h928 w926 = 14 := by rw [e929, ew927, ah_k_nw, if_pos rfl]
  have hn934 : ah_n h928 w926 = 401 := by rw [e929, ew927, ah_n_nw, if_pos rfl]
  refine ab_putR (r := (some w926)) f_X12_49 (Or.inr ⟨rfl, rfl, rfl⟩) rfl hk931 (fun x => by cases x <;> rfl) (fun x => by cases x <;> rfl) dX12_init_895 ?_
  refine Wp.nm fun h935 e936 => ?_
  have ht := ht h935 e936
  have hk938 : ah_k h935 t = 12 := by rw [e936]; exact hk931
  refine ab_aload_n (i := 0) dX12_init_898 rfl rfl ?_
  refine ab_bipush (v := 8) dX12_init_899 (by decide) ?_
  refine ab_newa (N := 8) 14 1 .int (by decide) rfl wa_int (by decide) (by decide) (by decide) (Nat.le_of_ble_eq_true rfl) (Nat.le_of_ble_eq_true rfl) dX12_init_901 ?_
  obtain ⟨w939, ew940⟩ : ∃ z, z = ah_x h935 := ⟨_, rfl⟩
  rw [← ew940]
  have ht := ht w939 ew940
  refine Wp.nm fun h941 e942 => ?_
  have ht := ht h941 e942
  have hc945 := ht.1
  have ht := ht.2
  have hk944 : ah_k h941 t = 12 := by rw [e942, ah_k_nw, if_neg hc945]; exact hk938
  have hk946 : ah_k h941 w939 = 14 := by rw [e942, ew940, ah_k_nw, if_pos rfl]
  have hn947 : ah_n h941 w939 = 8 := by rw [e942, ew940, ah_n_nw, if_pos rfl]
  refine ab_putR (r := (some w939)) f_X12_52 (Or.inr ⟨rfl, rfl, rfl⟩) rfl hk944 (fun x => by cases x <;> rfl) (fun x => by cases x <;> rfl) dX12_init_903 ?_
  refine Wp.nm fun h948 e949 => ?_
  have ht := ht h948 e949
  have hk951 : ah_k h948 t = 12 := by rw [e949]; exact hk944
  refine ab_aload_n (i := 0) dX12_init_906 rfl rfl ?_
  refine ab_iconst (v := 5) dX12_init_907 (by decide) ?_
  refine ab_newa (N := 5) 14 1 .int (by decide) rfl wa_int (by decide) (by decide) (by decide) (Nat.le_of_ble_eq_true rfl) (Nat.le_of_ble_eq_true rfl) dX12_init_908 ?_
  obtain ⟨w952, ew953⟩ : ∃ z, z = ah_x h948 := ⟨_, rfl⟩
  rw [← ew953]
  have ht := ht w952 ew953
  refine Wp.nm fun h954 e955 => ?_
  have ht := ht h954 e955
  have hc958 := ht.1
  have ht := ht.2
  have hk957 : ah_k h954 t = 12 := by rw [e955, ah_k_nw, if_neg hc958]; exact hk951
  have hk959 : ah_k h954 w952 = 14 := by rw [e955, ew953, ah_k_nw, if_pos rfl]
  have hn960 : ah_n h954 w952 = 5 := by rw [e955, ew953, ah_n_nw, if_pos rfl]
  refine ab_putR (r := (some w952)) f_X12_55 (Or.inr ⟨rfl, rfl, rfl⟩) rfl hk957 (fun x => by cases x <;> rfl) (fun x => by cases x <;> rfl) dX12_init_910 ?_
  refine Wp.nm fun h961 e962 => ?_
  have ht := ht h961 e962
  have hk964 : ah_k h961 t = 12 := by rw [e962]; exact hk957
  refine ab_aload_n (i := 0) dX12_init_913 rfl rfl ?_
  refine ab_ldc (v := 1123200) (tb_6 (List.mem_of_getElem? (i := 218) (by decide +kernel)) rfl) dX12_init_914 ?_
  refine ab_newa (N := 1123200) 13 0 .byte (by decide) rfl wa_byte (by decide) (by decide) (by decide) (Nat.le_of_ble_eq_true rfl) (Nat.le_of_ble_eq_true rfl) dX12_init_916 ?_
  obtain ⟨w965, ew966⟩ : ∃ z, z = ah_x h961 := ⟨_, rfl⟩
  rw [← ew966]
  have ht := ht w965 ew966
  refine Wp.nm fun h967 e968 => ?_
  have ht := ht h967 e968
  have hc971 := ht.1
  have ht := ht.2
  have hk970 : ah_k h967 t = 12 := by rw [e968, ah_k_nw, if_neg hc971]; exact hk964
  have hk972 : ah_k h967 w965 = 13 := by rw [e968, ew966, ah_k_nw, if_pos rfl]
  have hn973 : ah_n h967 w965 = 1123200 := by rw [e968, ew966, ah_n_nw, if_pos rfl]
  refine ab_putR (r := (some w965)) f_X12_59 (Or.inr ⟨rfl, rfl, rfl⟩) rfl hk970 (fun x => by cases x <;> rfl) (fun x => by cases x <;> rfl) dX12_init_918 ?_
  refine Wp.nm fun h974 e975 => ?_
  have ht := ht h974 e975
  have hk977 : ah_k h974 t = 12 := by rw [e975]; exact hk970
  refine ab_aload_n (i := 0) dX12_init_921 rfl rfl ?_
  refine ab_sipush (v := 7920) dX12_init_922 (by decide) ?_
  refine ab_newa (N := 7920) 13 0 .byte (by decide) rfl wa_byte (by decide) (by decide) (by decide) (Nat.le_of_ble_eq_true rfl) (Nat.le_of_ble_eq_true rfl) dX12_init_925 ?_
  obtain ⟨w978, ew979⟩ : ∃ z, z = ah_x h974 := ⟨_, rfl⟩
  rw [← ew979]
  have ht := ht w978 ew979
  refine Wp.nm fun h980 e981 => ?_
  have ht := ht h980 e981
  have hc984 := ht.1
  have ht := ht.2
  have hk983 : ah_k h980 t = 12 := by rw [e981, ah_k_nw, if_neg hc984]; exact hk977
  have hk985 : ah_k h980 w978 = 13 := by rw [e981, ew979, ah_k_nw, if_pos rfl]
  have hn986 : ah_n h980 w978 = 7920 := by rw [e981, ew979, ah_n_nw, if_pos rfl]
  refine ab_putR (r := (some w978)) f_X12_62 (Or.inr ⟨rfl, rfl, rfl⟩) rfl hk983 (fun x => by cases x <;> rfl) (fun x => by cases x <;> rfl) dX12_init_927 ?_
  refine Wp.nm fun h987 e988 => ?_
  have ht := ht h987 e988
  have hk990 : ah_k h987 t = 12 := by rw [e988]; exact hk983
  refine ab_aload_n (i := 0) dX12_init_930 rfl rfl ?_
  refine ab_sipush (v := 7200) dX12_init_931 (by decide) ?_
  refine ab_newa (N := 7200) 13 0 .byte (by decide) rfl wa_byte (by decide) (by decide) (by decide) (Nat.le_of_ble_eq_true rfl) (Nat.le_of_ble_eq_true rfl) dX12_init_934 ?_
  obtain ⟨w991, ew992⟩ : ∃ z, z = ah_x h987 := ⟨_, rfl⟩
  rw [← ew992]
  have ht := ht w991 ew992
  refine Wp.nm fun h993 e994 => ?_
  have ht := ht h993 e994
  have hc997 := ht.1
  have ht := ht.2
  have hk996 : ah_k h993 t = 12 := by rw [e994, ah_k_nw, if_neg hc997]; exact hk990
  have hk998 : ah_k h993 w991 = 13 := by rw [e994, ew992, ah_k_nw, if_pos rfl]
  have hn999 : ah_n h993 w991 = 7200 := by rw [e994, ew992, ah_n_nw, if_pos rfl]
  refine ab_putR (r := (some w991)) f_X12_65 (Or.inr ⟨rfl, rfl, rfl⟩) rfl hk996 (fun x => by cases x <;> rfl) (fun x => by cases x <;> rfl) dX12_init_936 ?_
  refine Wp.nm fun h1000 e1001 => ?_
  have ht := ht h1000 e1001
  have hk1003 : ah_k h1000 t = 12 := by rw [e1001]; exact hk996
  refine ab_aload_n (i := 0) dX12_init_939 rfl rfl ?_
  refine ab_iconst (v := (-1)) dX12_init_940 (by decide) ?_
  refine ab_putI f_X12_68 (Or.inl rfl) rfl hk1003 rfl rfl dX12_init_941 ?_
  refine Wp.nm fun h1004 e1005 => ?_
  have ht := ht h1004 e1005
  have hk1007 : ah_k h1004 t = 12 := by rw [e1005]; exact hk1003
  refine ab_aload_n (i := 0) dX12_init_944 rfl rfl ?_
  refine ab_sipush (v := 144) dX12_init_945 (by decide) ?_
  refine ab_newa (N := 144) 14 1 .int (by decide) rfl wa_int (by decide) (by decide) (by decide) (Nat.le_of_ble_eq_true rfl) (Nat.le_of_ble_eq_true rfl) dX12_init_948 ?_
  obtain ⟨w1008, ew1009⟩ : ∃ z, z = ah_x h1004 := ⟨_, rfl⟩
  rw [← ew1009]
  have ht := ht w1008 ew1009
  refine Wp.nm fun h1010 e1011 => ?_
  have ht := ht h1010 e1011
  have hc1014 := ht.1
  have ht := ht.2
  have hk1013 : ah_k h1010 t = 12 := by rw [e1011, ah_k_nw, if_neg hc1014]; exact hk1007
  have hk1015 : ah_k h1010 w1008 = 14 := by rw [e1011, ew1009, ah_k_nw, if_pos rfl]
  have hn1016 : ah_n h1010 w1008 = 144 := by rw [e1011, ew1009, ah_n_nw, if_pos rfl]
  refine ab_putR (r := (some w1008)) f_X12_71 (Or.inr ⟨rfl, rfl, rfl⟩) rfl hk1013 (fun x => by cases x <;> rfl) (fun x => by cases x <;> rfl) dX12_init_950 ?_
  refine Wp.nm fun h1017 e1018 => ?_
  have ht := ht h1017 e1018
  have hk1020 : ah_k h1017 t = 12 := by rw [e1018]; exact hk1013
  refine ab_aload_n (i := 0) dX12_init_953 rfl rfl ?_
  refine ab_sipush (v := 144) dX12_init_954 (by decide) ?_
  refine ab_newa (N := 144) 14 1 .int (by decide) rfl wa_int (by decide) (by decide) (by decide) (Nat.le_of_ble_eq_true rfl) (Nat.le_of_ble_eq_true rfl) dX12_init_957 ?_
  obtain ⟨w1021, ew1022⟩ : ∃ z, z = ah_x h1017 := ⟨_, rfl⟩
  rw [← ew1022]
  have ht := ht w1021 ew1022
  refine Wp.nm fun h1023 e1024 => ?_
  have ht := ht h1023 e1024
  have hc1027 := ht.1
  have ht := ht.2
  have hk1026 : ah_k h1023 t = 12 := by rw [e1024, ah_k_nw, if_neg hc1027]; exact hk1020
  have hk1028 : ah_k h1023 w1021 = 14 := by rw [e1024, ew1022, ah_k_nw, if_pos rfl]
  have hn1029 : ah_n h1023 w1021 = 144 := by rw [e1024, ew1022, ah_n_nw, if_pos rfl]
  refine ab_putR (r := (some w1021)) f_X12_74 (Or.inr ⟨rfl, rfl, rfl⟩) rfl hk1026 (fun x => by cases x <;> rfl) (fun x => by cases x <;> rfl) dX12_init_959 ?_
  refine Wp.nm fun h1030 e1031 => ?_
  have ht := ht h1030 e1031
  have hk1033 : ah_k h1030 t = 12 := by rw [e1031]; exact hk1026
  refine ab_aload_n (i := 0) dX12_init_962 rfl rfl ?_
  refine ab_bipush (v := 10) dX12_init_963 (by decide) ?_
  refine ab_newa (N := 10) 14 1 .int (by decide) rfl wa_int (by decide) (by decide) (by decide) (Nat.le_of_ble_eq_true rfl) (Nat.le_of_ble_eq_true rfl) dX12_init_965 ?_
  obtain ⟨w1034, ew1035⟩ : ∃ z, z = ah_x h1030 := ⟨_, rfl⟩
  rw [← ew1035]
  have ht := ht w1034 ew1035
  refine Wp.nm fun h1036 e1037 => ?_
  have ht := ht h1036 e1037
  have hc1040 := ht.1
  have ht := ht.2
  have hk1039 : ah_k h1036 t = 12 := by rw [e1037, ah_k_nw, if_neg hc1040]; exact hk1033
  have hk1041 : ah_k h1036 w1034 = 14 := by rw [e1037, ew1035, ah_k_nw, if_pos rfl]
  have hn1042 : ah_n h1036 w1034 = 10 := by rw [e1037, ew1035, ah_n_nw, if_pos rfl]
  refine ab_putR (r := (some w1034)) f_X12_77 (Or.inr ⟨rfl, rfl, rfl⟩) rfl hk1039 (fun x => by cases x <;> rfl) (fun x => by cases x <;> rfl) dX12_init_967 ?_
  refine Wp.nm fun h1043 e1044 => ?_
  have ht := ht h1043 e1044
  have hk1046 : ah_k h1043 t = 12 := by rw [e1044]; exact hk1039
  refine ab_aload_n (i := 0) dX12_init_970 rfl rfl ?_
  refine ab_bipush (v := 10) dX12_init_971 (by decide) ?_
  refine ab_newa (N := 10) 14 1 .int (by decide) rfl wa_int (by decide) (by decide) (by decide) (Nat.le_of_ble_eq_true rfl) (Nat.le_of_ble_eq_true rfl) dX12_init_973 ?_
  obtain ⟨w1047, ew1048⟩ : ∃ z, z = ah_x h1043 := ⟨_, rfl⟩
  rw [← ew1048]
  have ht := ht w1047 ew1048
  refine Wp.nm fun h1049 e1050 => ?_
  have ht := ht h1049 e1050
  have hc1053 := ht.1
  have ht := ht.2
  have hk1052 : ah_k h1049 t = 12 := by rw [e1050, ah_k_nw, if_neg hc1053]; exact hk1046
  have hk1054 : ah_k h1049 w1047 = 14 := by rw [e1050, ew1048, ah_k_nw, if_pos rfl]
  have hn1055 : ah_n h1049 w1047 = 10 := by rw [e1050, ew1048, ah_n_nw, if_pos rfl]
  refine ab_putR (r := (some w1047)) f_X12_80 (Or.inr ⟨rfl, rfl, rfl⟩) rfl hk1052 (fun x => by cases x <;> rfl) (fun x => by cases x <;> rfl) dX12_init_975 ?_
  refine Wp.nm fun h1056 e1057 => ?_
  have ht := ht h1056 e1057
  have hk1059 : ah_k h1056 t = 12 := by rw [e1057]; exact hk1052
  refine ab_aload_n (i := 0) dX12_init_978 rfl rfl ?_
  refine ab_bipush (v := 10) dX12_init_979 (by decide) ?_
  refine ab_newa (N := 10) 14 1 .int (by decide) rfl wa_int (by decide) (by decide) (by decide) (Nat.le_of_ble_eq_true rfl) (Nat.le_of_ble_eq_true rfl) dX12_init_981 ?_
  obtain ⟨w1060, ew1061⟩ : ∃ z, z = ah_x h1056 := ⟨_, rfl⟩
  rw [← ew1061]
  have ht := ht w1060 ew1061
  refine Wp.nm fun h1062 e1063 => ?_
  have ht := ht h1062 e1063
  have hc1066 := ht.1
  have ht := ht.2
  have hk1065 : ah_k h1062 t = 12 := by rw [e1063, ah_k_nw, if_neg hc1066]; exact hk1059
  have hk1067 : ah_k h1062 w1060 = 14 := by rw [e1063, ew1061, ah_k_nw, if_pos rfl]
  have hn1068 : ah_n h1062 w1060 = 10 := by rw [e1063, ew1061, ah_n_nw, if_pos rfl]
  refine ab_putR (r := (some w1060)) f_X12_83 (Or.inr ⟨rfl, rfl, rfl⟩) rfl hk1065 (fun x => by cases x <;> rfl) (fun x => by cases x <;> rfl) dX12_init_983 ?_
  refine Wp.nm fun h1069 e1070 => ?_
  have ht := ht h1069 e1070
  have hk1072 : ah_k h1069 t = 12 := by rw [e1070]; exact hk1065
  refine ab_aload_n (i := 0) dX12_init_986 rfl rfl ?_
  refine ab_bipush (v := 10) dX12_init_987 (by decide) ?_
  refine ab_newa (N := 10) 14 1 .int (by decide) rfl wa_int (by decide) (by decide) (by decide) (Nat.le_of_ble_eq_true rfl) (Nat.le_of_ble_eq_true rfl) dX12_init_989 ?_
  obtain ⟨w1073, ew1074⟩ : ∃ z, z = ah_x h1069 := ⟨_, rfl⟩
  rw [← ew1074]
  have ht := ht w1073 ew1074
  refine Wp.nm fun h1075 e1076 => ?_
  have ht := ht h1075 e1076
  have hc1079 := ht.1
  have ht := ht.2
  have hk1078 : ah_k h1075 t = 12 := by rw [e1076, ah_k_nw, if_neg hc1079]; exact hk1072
  have hk1080 : ah_k h1075 w1073 = 14 := by rw [e1076, ew1074, ah_k_nw, if_pos rfl]
  have hn1081 : ah_n h1075 w1073 = 10 := by rw [e1076, ew1074, ah_n_nw, if_pos rfl]
  refine ab_putR (r := (some w1073)) f_X12_86 (Or.inr ⟨rfl, rfl, rfl⟩) rfl hk1078 (fun x => by cases x <;> rfl) (fun x => by cases x <;> rfl) dX12_init_991 ?_
  refine Wp.nm fun h1082 e1083 => ?_
  have ht := ht h1082 e1083
  have hk1085 : ah_k h1082 t = 12 := by rw [e1083]; exact hk1078
  refine ab_aload_n (i := 0) dX12_init_994 rfl rfl ?_
  refine ab_bipush (v := 10) dX12_init_995 (by decide) ?_
  refine ab_newa (N := 10) 14 1 .int (by decide) rfl wa_int (by decide) (by decide) (by decide) (Nat.le_of_ble_eq_true rfl) (Nat.le_of_ble_eq_true rfl) dX12_init_997 ?_
  obtain ⟨w1086, ew1087⟩ : ∃ z, z = ah_x h1082 := ⟨_, rfl⟩
  rw [← ew1087]
  have ht := ht w1086 ew1087
  refine Wp.nm fun h1088 e1089 => ?_
  have ht := ht h1088 e1089
  have hc1092 := ht.1
  have ht := ht.2
  have hk1091 : ah_k h1088 t = 12 := by rw [e1089, ah_k_nw, if_neg hc1092]; exact hk1085
  have hk1093 : ah_k h1088 w1086 = 14 := by rw [e1089, ew1087, ah_k_nw, if_pos rfl]
  have hn1094 : ah_n h1088 w1086 = 10 := by rw [e1089, ew1087, ah_n_nw, if_pos rfl]
  refine ab_putR (r := (some w1086)) f_X12_89 (Or.inr ⟨rfl, rfl, rfl⟩) rfl hk1091 (fun x => by cases x <;> rfl) (fun x => by cases x <;> rfl) dX12_init_999 ?_
  refine Wp.nm fun h1095 e1096 => ?_
  have ht := ht h1095 e1096
  have hk1098 : ah_k h1095 t = 12 := by rw [e1096]; exact hk1091
  refine ab_aload_n (i := 0) dX12_init_1002 rfl rfl ?_
  refine ab_bipush (v := 10) dX12_init_1003 (by decide) ?_
  refine ab_newa (N := 10) 16 3 .boolean (by decide) rfl wa_boolean (by decide) (by decide) (by decide) (Nat.le_of_ble_eq_true rfl) (Nat.le_of_ble_eq_true rfl) dX12_init_1005 ?_
  obtain ⟨w1099, ew1100⟩ : ∃ z, z = ah_x h1095 := ⟨_, rfl⟩
  rw [← ew1100]
  have ht := ht w1099 ew1100
  refine Wp.nm fun h1101 e1102 => ?_
  have ht := ht h1101 e1102
  have hc1105 := ht.1
  have ht := ht.2
  have hk1104 : ah_k h1101 t = 12 := by rw [e1102, ah_k_nw, if_neg hc1105]; exact hk1098
  have hk1106 : ah_k h1101 w1099 = 16 := by rw [e1102, ew1100, ah_k_nw, if_pos rfl]
  have hn1107 : ah_n h1101 w1099 = 10 := by rw [e1102, ew1100, ah_n_nw, if_pos rfl]
  refine ab_putR (r := (some w1099)) f_X12_92 (Or.inr ⟨rfl, rfl, rfl⟩) rfl hk1104 (fun x => by cases x <;> rfl) (fun x => by cases x <;> rfl) dX12_init_1007 ?_
  refine Wp.nm fun h1108 e1109 => ?_
  have ht := ht h1108 e1109
  have hk1111 : ah_k h1108 t = 12 := by rw [e1109]; exact hk1104
  refine ab_aload_n (i := 0) dX12_init_1010 rfl rfl ?_
  refine ab_bipush (v := 10) dX12_init_1011 (by decide) ?_
  refine ab_newa (N := 10) 16 3 .boolean (by decide) rfl wa_boolean (by decide) (by decide) (by decide) (Nat.le_of_ble_eq_true rfl) (Nat.le_of_ble_eq_true rfl) dX12_init_1013 ?_
  obtain ⟨w1112, ew1113⟩ : ∃ z, z = ah_x h1108 := ⟨_, rfl⟩
  rw [← ew1113]
  have ht := ht w1112 ew1113
  refine Wp.nm fun h1114 e1115 => ?_
  have ht := ht h1114 e1115
  have hc1118 := ht.1
  have ht := ht.2
  have hk1117 : ah_k h1114 t = 12 := by rw [e1115, ah_k_nw, if_neg hc1118]; exact hk1111
  have hk1119 : ah_k h1114 w1112 = 16 := by rw [e1115, ew1113, ah_k_nw, if_pos rfl]
  have hn1120 : ah_n h1114 w1112 = 10 := by rw [e1115, ew1113, ah_n_nw, if_pos rfl]
  refine ab_putR (r := (some w1112)) f_X12_95 (Or.inr ⟨rfl, rfl, rfl⟩) rfl hk1117 (fun x => by cases x <;> rfl) (fun x => by cases x <;> rfl) dX12_init_1015 ?_
  refine Wp.nm fun h1121 e1122 => ?_
  have ht := ht h1121 e1122
  have hk1124 : ah_k h1121 t = 12 := by rw [e1122]; exact hk1117
  refine ab_aload_n (i := 0) dX12_init_1018 rfl rfl ?_
  refine ab_sipush (v := 360) dX12_init_1019 (by decide) ?_
  refine ab_newa (N := 360) 14 1 .int (by decide) rfl wa_int (by decide) (by decide) (by decide) (Nat.le_of_ble_eq_true rfl) (Nat.le_of_ble_eq_true rfl) dX12_init_1022 ?_
  obtain ⟨w1125, ew1126⟩ : ∃ z, z = ah_x h1121 := ⟨_, rfl⟩
  rw [← ew1126]
  have ht := ht w1125 ew1126
  refine Wp.nm fun h1127 e1128 => ?_
  have ht := ht h1127 e1128
  have hc1131 := ht.1
  have ht := ht.2
  have hk1130 : ah_k h1127 t = 12 := by rw [e1128, ah_k_nw, if_neg hc1131]; exact hk1124
  have hk1132 : ah_k h1127 w1125 = 14 := by rw [e1128, ew1126, ah_k_nw, if_pos rfl]
  have hn1133 : ah_n h1127 w1125 = 360 := by rw [e1128, ew1126, ah_n_nw, if_pos rfl]
  refine ab_putR (r := (some w1125)) f_X12_98 (Or.inr ⟨rfl, rfl, rfl⟩) rfl hk1130 (fun x => by cases x <;> rfl) (fun x => by cases x <;> rfl) dX12_init_1024 ?_
  refine Wp.nm fun h1134 e1135 => ?_
  have ht := ht h1134 e1135
  have hk1137 : ah_k h1134 t = 12 := by rw [e1135]; exact hk1130
  refine ab_aload_n (i := 0) dX12_init_1027 rfl rfl ?_
  refine ab_iconst (v := 3) dX12_init_1028 (by decide) ?_
  refine ab_newa (N := 3) 14 1 .int (by decide) rfl wa_int (by decide) (by decide) (by decide) (Nat.le_of_ble_eq_true rfl) (Nat.le_of_ble_eq_true rfl) dX12_init_1029 ?_
  obtain ⟨w1138, ew1139⟩ : ∃ z, z = ah_x h1134 := ⟨_, rfl⟩
  rw [← ew1139]
  have ht := ht w1138 ew1139
  refine Wp.nm fun h1140 e1141 => ?_
  have ht := ht h1140 e1141
  have hc1144 := ht.1
  have ht := ht.2
  have hk1143 : ah_k h1140 t = 12 := by rw [e1141, ah_k_nw, if_neg hc1144]; exact hk1137
  have hk1145 : ah_k h1140 w1138 = 14 := by rw [e1141, ew1139, ah_k_nw, if_pos rfl]
  have hn1146 : ah_n h1140 w1138 = 3 := by rw [e1141, ew1139, ah_n_nw, if_pos rfl]
  refine ab_putR (r := (some w1138)) f_X12_101 (Or.inr ⟨rfl, rfl, rfl⟩) rfl hk1143 (fun x => by cases x <;> rfl) (fun x => by cases x <;> rfl) dX12_init_1031 ?_
  refine Wp.nm fun h1147 e1148 => ?_
  have ht := ht h1147 e1148
  have hk1150 : ah_k h1147 t = 12 := by rw [e1148]; exact hk1143
  refine ab_aload_n (i := 0) dX12_init_1034 rfl rfl ?_
  refine ab_sipush (v := 1200) dX12_init_1035 (by decide) ?_
  refine ab_newa (N := 1200) 16 3 .boolean (by decide) rfl wa_boolean (by decide) (by decide) (by decide) (Nat.le_of_ble_eq_true rfl) (Nat.le_of_ble_eq_true rfl) dX12_init_1038 ?_
  obtain ⟨w1151, ew1152⟩ : ∃ z, z = ah_x h1147 := ⟨_, rfl⟩
  rw [← ew1152]
  have ht := ht w1151 ew1152
  refine Wp.nm fun h1153 e1154 => ?_
  have ht := ht h1153 e1154
  have hc1157 := ht.1
  have ht := ht.2
  have hk1156 : ah_k h1153 t = 12 := by rw [e1154, ah_k_nw, if_neg hc1157]; exact hk1150
  have hk1158 : ah_k h1153 w1151 = 16 := by rw [e1154, ew1152, ah_k_nw, if_pos rfl]
  have hn1159 : ah_n h1153 w1151 = 1200 := by rw [e1154, ew1152, ah_n_nw, if_pos rfl]
  refine ab_putR (r := (some w1151)) f_X12_104 (Or.inr ⟨rfl, rfl, rfl⟩) rfl hk1156 (fun x => by cases x <;> rfl) (fun x => by cases x <;> rfl) dX12_init_1040 ?_
  refine Wp.nm fun h1160 e1161 => ?_
  have ht := ht h1160 e1161
  have hk1163 : ah_k h1160 t = 12 := by rw [e1161]; exact hk1156
  refine ab_aload_n (i := 0) dX12_init_1043 rfl rfl ?_
  refine ab_sipush (v := 1200) dX12_init_1044 (by decide) ?_
  refine ab_newa (N := 1200) 14 1 .int (by decide) rfl wa_int (by decide) (by decide) (by decide) (Nat.le_of_ble_eq_true rfl) (Nat.le_of_ble_eq_true rfl) dX12_init_1047 ?_
  obtain ⟨w1164, ew1165⟩ : ∃ z, z = ah_x h1160 := ⟨_, rfl⟩
  rw [← ew1165]
  have ht := ht w1164 ew1165
  refine Wp.nm fun h1166 e1167 => ?_
  have ht := ht h1166 e1167
  have hc1170 := ht.1
  have ht := ht.2
  have hk1169 : ah_k h1166 t = 12 := by rw [e1167, ah_k_nw, if_neg hc1170]; exact hk1163
  have hk1171 : ah_k h1166 w1164 = 14 := by rw [e1167, ew1165, ah_k_nw, if_pos rfl]
  have hn1172 : ah_n h1166 w1164 = 1200 := by rw [e1167, ew1165, ah_n_nw, if_pos rfl]
  refine ab_putR (r := (some w1164)) f_X12_107 (Or.inr ⟨rfl, rfl, rfl⟩) rfl hk1169 (fun x => by cases x <;> rfl) (fun x => by cases x <;> rfl) dX12_init_1049 ?_
  refine Wp.nm fun h1173 e1174 => ?_
  have ht := ht h1173 e1174
  have hk1176 : ah_k h1173 t = 12 := by rw [e1174]; exact hk1169
  refine ab_aload_n (i := 0) dX12_init_1052 rfl rfl ?_
  refine ab_sipush (v := 1200) dX12_init_1053 (by decide) ?_
  refine ab_newa (N := 1200) 16 3 .boolean (by decide) rfl wa_boolean (by decide) (by decide) (by decide) (Nat.le_of_ble_eq_true rfl) (Nat.le_of_ble_eq_true rfl) dX12_init_1056 ?_
  obtain ⟨w1177, ew1178⟩ : ∃ z, z = ah_x h1173 := ⟨_, rfl⟩
  rw [← ew1178]
  have ht := ht w1177 ew1178
  refine Wp.nm fun h1179 e1180 => ?_
  have ht := ht h1179 e1180
  have hc1183 := ht.1
  have ht := ht.2
  have hk1182 : ah_k h1179 t = 12 := by rw [e1180, ah_k_nw, if_neg hc1183]; exact hk1176
  have hk1184 : ah_k h1179 w1177 = 16 := by rw [e1180, ew1178, ah_k_nw, if_pos rfl]
  have hn1185 : ah_n h1179 w1177 = 1200 := by rw [e1180, ew1178, ah_n_nw, if_pos rfl]
  refine ab_putR (r := (some w1177)) f_X12_110 (Or.inr ⟨rfl, rfl, rfl⟩) rfl hk1182 (fun x => by cases x <;> rfl) (fun x => by cases x <;> rfl) dX12_init_1058 ?_
  refine Wp.nm fun h1186 e1187 => ?_
  have ht := ht h1186 e1187
  have hk1189 : ah_k h1186 t = 12 := by rw [e1187]; exact hk1182
  refine ab_aload_n (i := 0) dX12_init_1061 rfl rfl ?_
  refine ab_iconst (v := (-1)) dX12_init_1062 (by decide) ?_
  refine ab_putI f_X12_113 (Or.inl rfl) rfl hk1189 rfl rfl dX12_init_1063 ?_
  refine Wp.nm fun h1190 e1191 => ?_
  have ht := ht h1190 e1191
  have hk1193 : ah_k h1190 t = 12 := by rw [e1191]; exact hk1189
  refine ab_aload_n (i := 0) dX12_init_1066 rfl rfl ?_
  refine ab_sipush (v := 10240) dX12_init_1067 (by decide) ?_
  refine ab_newa (N := 10240) 14 1 .int (by decide) rfl wa_int (by decide) (by decide) (by decide) (Nat.le_of_ble_eq_true rfl) (Nat.le_of_ble_eq_true rfl) dX12_init_1070 ?_
  obtain ⟨w1194, ew1195⟩ : ∃ z, z = ah_x h1190 := ⟨_, rfl⟩
  rw [← ew1195]
  have ht := ht w1194 ew1195
  refine Wp.nm fun h1196 e1197 => ?_
  have ht := ht h1196 e1197
  have hc1200 := ht.1
  have ht := ht.2
  have hk1199 : ah_k h1196 t = 12 := by rw [e1197, ah_k_nw, if_neg hc1200]; exact hk1193
  have hk1201 : ah_k h1196 w1194 = 14 := by rw [e1197, ew1195, ah_k_nw, if_pos rfl]
  have hn1202 : ah_n h1196 w1194 = 10240 := by rw [e1197, ew1195, ah_n_nw, if_pos rfl]
  refine ab_putR (r := (some w1194)) f_X12_116 (Or.inr ⟨rfl, rfl, rfl⟩) rfl hk1199 (fun x => by cases x <;> rfl) (fun x => by cases x <;> rfl) dX12_init_1072 ?_
  refine Wp.nm fun h1203 e1204 => ?_
  have ht := ht h1203 e1204
  have hk1206 : ah_k h1203 t = 12 := by rw [e1204]; exact hk1199
  refine ab_aload_n (i := 0) dX12_init_1075 rfl rfl ?_
  refine ab_bipush (v := 120) dX12_init_1076 (by decide) ?_
  refine ab_newa (N := 120) 14 1 .int (by decide) rfl wa_int (by decide) (by decide) (by decide) (Nat.le_of_ble_eq_true rfl) (Nat.le_of_ble_eq_true rfl) dX12_init_1078 ?_
  obtain ⟨w1207, ew1208⟩ : ∃ z, z = ah_x h1203 := ⟨_, rfl⟩
  rw [← ew1208]
  have ht := ht w1207 ew1208
  refine Wp.nm fun h1209 e1210 => ?_
  have ht := ht h1209 e1210
  have hc1213 := ht.1
  have ht := ht.2
  have hk1212 : ah_k h1209 t = 12 := by rw [e1210, ah_k_nw, if_neg hc1213]; exact hk1206
  have hk1214 : ah_k h1209 w1207 = 14 := by rw [e1210, ew1208, ah_k_nw, if_pos rfl]
  have hn1215 : ah_n h1209 w1207 = 120 := by rw [e1210, ew1208, ah_n_nw, if_pos rfl]
  refine ab_putR (r := (some w1207)) f_X12_119 (Or.inr ⟨rfl, rfl, rfl⟩) rfl hk1212 (fun x => by cases x <;> rfl) (fun x => by cases x <;> rfl) dX12_init_1080 ?_
  refine Wp.nm fun h1216 e1217 => ?_
  have ht := ht h1216 e1217
  have hk1219 : ah_k h1216 t = 12 := by rw [e1217]; exact hk1212
  refine ab_aload_n (i := 0) dX12_init_1083 rfl rfl ?_
  refine ab_bipush (v := 120) dX12_init_1084 (by decide) ?_
  refine ab_newa (N := 120) 14 1 .int (by decide) rfl wa_int (by decide) (by decide) (by decide) (Nat.le_of_ble_eq_true rfl) (Nat.le_of_ble_eq_true rfl) dX12_init_1086 ?_
  obtain ⟨w1220, ew1221⟩ : ∃ z, z = ah_x h1216 := ⟨_, rfl⟩
  rw [← ew1221]
  have ht := ht w1220 ew1221
  refine Wp.nm fun h1222 e1223 => ?_
  have ht := ht h1222 e1223
  have hc1226 := ht.1
  have ht := ht.2
  have hk1225 : ah_k h1222 t = 12 := by rw [e1223, ah_k_nw, if_neg hc1226]; exact hk1219
  have hk1227 : ah_k h1222 w1220 = 14 := by rw [e1223, ew1221, ah_k_nw, if_pos rfl]
  have hn1228 : ah_n h1222 w1220 = 120 := by rw [e1223, ew1221, ah_n_nw, if_pos rfl]
  refine ab_putR (r := (some w1220)) f_X12_122 (Or.inr ⟨rfl, rfl, rfl⟩) rfl hk1225 (fun x => by cases x <;> rfl) (fun x => by cases x <;> rfl) dX12_init_1088 ?_
  refine Wp.nm fun h1229 e1230 => ?_
  have ht := ht h1229 e1230
  have hk1232 : ah_k h1229 t = 12 := by rw [e1230]; exact hk1225
  refine ab_aload_n (i := 0) dX12_init_1091 rfl rfl ?_
  refine ab_iconst (v := 3) dX12_init_1092 (by decide) ?_
  refine ab_newa (N := 3) 14 1 .int (by decide) rfl wa_int (by decide) (by decide) (by decide) (Nat.le_of_ble_eq_true rfl) (Nat.le_of_ble_eq_true rfl) dX12_init_1093 ?_
  obtain ⟨w1233, ew1234⟩ : ∃ z, z = ah_x h1229 := ⟨_, rfl⟩
  rw [← ew1234]
  have ht := ht w1233 ew1234
  refine Wp.nm fun h1235 e1236 => ?_
  have ht := ht h1235 e1236
  have hc1239 := ht.1
  have ht := ht.2
  have hk1238 : ah_k h1235 t = 12 := by rw [e1236, ah_k_nw, if_neg hc1239]; exact hk1232
  have hk1240 : ah_k h1235 w1233 = 14 := by rw [e1236, ew1234, ah_k_nw, if_pos rfl]
  have hn1241 : ah_n h1235 w1233 = 3 := by rw [e1236, ew1234, ah_n_nw, if_pos rfl]
  refine ab_putR (r := (some w1233)) f_X12_125 (Or.inr ⟨rfl, rfl, rfl⟩) rfl hk1238 (fun x => by cases x <;> rfl) (fun x => by cases x <;> rfl) dX12_init_1095 ?_
  refine Wp.nm fun h1242 e1243 => ?_
  have ht := ht h1242 e1243
  have hk1245 : ah_k h1242 t = 12 := by rw [e1243]; exact hk1238
  refine ab_aload_n (i := 0) dX12_init_1098 rfl rfl ?_
  refine ab_iconst (v := 3) dX12_init_1099 (by decide) ?_
  refine ab_newa (N := 3) 14 1 .int (by decide) rfl wa_int (by decide) (by decide) (by decide) (Nat.le_of_ble_eq_true rfl) (Nat.le_of_ble_eq_true rfl) dX12_init_1100 ?_
  obtain ⟨w1246, ew1247⟩ : ∃ z, z = ah_x h1242 := ⟨_, rfl⟩
  rw [← ew1247]
  have ht := ht w1246 ew1247
  refine Wp.nm fun h1248 e1249 => ?_
  have ht := ht h1248 e1249
  have hc1252 := ht.1
  have ht := ht.2
  have hk1251 : ah_k h1248 t = 12 := by rw [e1249, ah_k_nw, if_neg hc1252]; exact hk1245
  have hk1253 : ah_k h1248 w1246 = 14 := by rw [e1249, ew1247, ah_k_nw, if_pos rfl]
  have hn1254 : ah_n h1248 w1246 = 3 := by rw [e1249, ew1247, ah_n_nw, if_pos rfl]
  refine ab_putR (r := (some w1246)) f_X12_128 (Or.inr ⟨rfl, rfl, rfl⟩) rfl hk1251 (fun x => by cases x <;> rfl) (fun x => by cases x <;> rfl) dX12_init_1102 ?_
  refine Wp.nm fun h1255 e1256 => ?_
  have ht := ht h1255 e1256
  have hk1258 : ah_k h1255 t = 12 := by rw [e1256]; exact hk1251
  refine ab_aload_n (i := 0) dX12_init_1105 rfl rfl ?_
  refine ab_bipush (v := 6) dX12_init_1106 (by decide) ?_
  refine ab_newa (N := 6) 14 1 .int (by decide) rfl wa_int (by decide) (by decide) (by decide) (Nat.le_of_ble_eq_true rfl) (Nat.le_of_ble_eq_true rfl) dX12_init_1108 ?_
  obtain ⟨w1259, ew1260⟩ : ∃ z, z = ah_x h1255 := ⟨_, rfl⟩
  rw [← ew1260]
  have ht := ht w1259 ew1260
  refine Wp.nm fun h1261 e1262 => ?_
  have ht := ht h1261 e1262
  have hc1265 := ht.1
  have ht := ht.2
  have hk1264 : ah_k h1261 t = 12 := by rw [e1262, ah_k_nw, if_neg hc1265]; exact hk1258
  have hk1266 : ah_k h1261 w1259 = 14 := by rw [e1262, ew1260, ah_k_nw, if_pos rfl]
  have hn1267 : ah_n h1261 w1259 = 6 := by rw [e1262, ew1260, ah_n_nw, if_pos rfl]
  refine ab_putR (r := (some w1259)) f_X12_131 (Or.inr ⟨rfl, rfl, rfl⟩) rfl hk1264 (fun x => by cases x <;> rfl) (fun x => by cases x <;> rfl) dX12_init_1110 ?_
  refine Wp.nm fun h1268 e1269 => ?_
  have ht := ht h1268 e1269
  have hk1271 : ah_k h1268 t = 12 := by rw [e1269]; exact hk1264
  refine ab_aload_n (i := 0) dX12_init_1113 rfl rfl ?_
  refine ab_bipush (v := 6) dX12_init_1114 (by decide) ?_
  refine ab_newa (N := 6) 14 1 .int (by decide) rfl wa_int (by decide) (by decide) (by decide) (Nat.le_of_ble_eq_true rfl) (Nat.le_of_ble_eq_true rfl) dX12_init_1116 ?_
  obtain ⟨w1272, ew1273⟩ : ∃ z, z = ah_x h1268 := ⟨_, rfl⟩
  rw [← ew1273]
  have ht := ht w1272 ew1273
  refine Wp.nm fun h1274 e1275 => ?_
  have ht := ht h1274 e1275
  have hc1278 := ht.1
  have ht := ht.2
  have hk1277 : ah_k h1274 t = 12 := by rw [e1275, ah_k_nw, if_neg hc1278]; exact hk1271
  have hk1279 : ah_k h1274 w1272 = 14 := by rw [e1275, ew1273, ah_k_nw, if_pos rfl]
  have hn1280 : ah_n h1274 w1272 = 6 := by rw [e1275, ew1273, ah_n_nw, if_pos rfl]
  refine ab_putR (r := (some w1272)) f_X12_134 (Or.inr ⟨rfl, rfl, rfl⟩) rfl hk1277 (fun x => by cases x <;> rfl) (fun x => by cases x <;> rfl) dX12_init_1118 ?_
  refine Wp.nm fun h1281 e1282 => ?_
  have ht := ht h1281 e1282
  have hk1284 : ah_k h1281 t = 12 := by rw [e1282]; exact hk1277
  refine ab_aload_n (i := 0) dX12_init_1121 rfl rfl ?_
  refine ab_bipush (v := 6) dX12_init_1122 (by decide) ?_
  refine ab_newa (N := 6) 14 1 .int (by decide) rfl wa_int (by decide) (by decide) (by decide) (Nat.le_of_ble_eq_true rfl) (Nat.le_of_ble_eq_true rfl) dX12_init_1124 ?_
  obtain ⟨w1285, ew1286⟩ : ∃ z, z = ah_x h1281 := ⟨_, rfl⟩
  rw [← ew1286]
  have ht := ht w1285 ew1286
  refine Wp.nm fun h1287 e1288 => ?_
  have ht := ht h1287 e1288
  have hc1291 := ht.1
  have ht := ht.2
  have hk1290 : ah_k h1287 t = 12 := by rw [e1288, ah_k_nw, if_neg hc1291]; exact hk1284
  have hk1292 : ah_k h1287 w1285 = 14 := by rw [e1288, ew1286, ah_k_nw, if_pos rfl]
  have hn1293 : ah_n h1287 w1285 = 6 := by rw [e1288, ew1286, ah_n_nw, if_pos rfl]
  refine ab_putR (r := (some w1285)) f_X12_137 (Or.inr ⟨rfl, rfl, rfl⟩) rfl hk1290 (fun x => by cases x <;> rfl) (fun x => by cases x <;> rfl) dX12_init_1126 ?_
  refine Wp.nm fun h1294 e1295 => ?_
  have ht := ht h1294 e1295
  have hk1297 : ah_k h1294 t = 12 := by rw [e1295]; exact hk1290
  refine ab_aload_n (i := 0) dX12_init_1129 rfl rfl ?_
  refine ab_iconst (v := 3) dX12_init_1130 (by decide) ?_
  refine ab_newa (N := 3) 14 1 .int (by decide) rfl wa_int (by decide) (by decide) (by decide) (Nat.le_of_ble_eq_true rfl) (Nat.le_of_ble_eq_true rfl) dX12_init_1131 ?_
  obtain ⟨w1298, ew1299⟩ : ∃ z, z = ah_x h1294 := ⟨_, rfl⟩
  rw [← ew1299]
  have ht := ht w1298 ew1299
  refine Wp.nm fun h1300 e1301 => ?_
  have ht := ht h1300 e1301
  have hc1304 := ht.1
  have ht := ht.2
  have hk1303 : ah_k h1300 t = 12 := by rw [e1301, ah_k_nw, if_neg hc1304]; exact hk1297
  have hk1305 : ah_k h1300 w1298 = 14 := by rw [e1301, ew1299, ah_k_nw, if_pos rfl]
  have hn1306 : ah_n h1300 w1298 = 3 := by rw [e1301, ew1299, ah_n_nw, if_pos rfl]
  refine ab_putR (r := (some w1298)) f_X12_140 (Or.inr ⟨rfl, rfl, rfl⟩) rfl hk1303 (fun x => by cases x <;> rfl) (fun x => by cases x <;> rfl) dX12_init_1133 ?_
  refine Wp.nm fun h1307 e1308 => ?_
  have ht := ht h1307 e1308
  have hk1310 : ah_k h1307 t = 12 := by rw [e1308]; exact hk1303
  refine ab_aload_n (i := 0) dX12_init_1136 rfl rfl ?_
  refine ab_iconst (v := (-1)) dX12_init_1137 (by decide) ?_
  refine ab_putI f_X12_143 (Or.inl rfl) rfl hk1310 rfl rfl dX12_init_1138 ?_
  refine Wp.nm fun h1311 e1312 => ?_
  have ht := ht h1311 e1312
  have hk1314 : ah_k h1311 t = 12 := by rw [e1312]; exact hk1310
  refine ab_aload_n (i := 0) dX12_init_1141 rfl rfl ?_
  refine ab_iconst (v := (-1)) dX12_init_1142 (by decide) ?_
  refine ab_putI f_X12_146 (Or.inl rfl) rfl hk1314 rfl rfl dX12_init_1143 ?_
  refine Wp.nm fun h1315 e1316 => ?_
  have ht := ht h1315 e1316
  have hk1318 : ah_k h1315 t = 12 := by rw [e1316]; exact hk1314
  refine ab_aload_n (i := 0) dX12_init_1146 rfl rfl ?_
  refine ab_iconst (v := 3) dX12_init_1147 (by decide) ?_
  refine ab_newa (N := 3) 15 2 .long (by decide) rfl wa_long (by decide) (by decide) (by decide) (Nat.le_of_ble_eq_true rfl) (Nat.le_of_ble_eq_true rfl) dX12_init_1148 ?_
  obtain ⟨w1319, ew1320⟩ : ∃ z, z = ah_x h1315 := ⟨_, rfl⟩
  rw [← ew1320]
  have ht := ht w1319 ew1320
  refine Wp.nm fun h1321 e1322 => ?_
  have ht := ht h1321 e1322
  have hc1325 := ht.1
  have ht := ht.2
  have hk1324 : ah_k h1321 t = 12 := by rw [e1322, ah_k_nw, if_neg hc1325]; exact hk1318
  have hk1326 : ah_k h1321 w1319 = 15 := by rw [e1322, ew1320, ah_k_nw, if_pos rfl]
  have hn1327 : ah_n h1321 w1319 = 3 := by rw [e1322, ew1320, ah_n_nw, if_pos rfl]
  refine ab_putR (r := (some w1319)) f_X12_149 (Or.inr ⟨rfl, rfl, rfl⟩) rfl hk1324 (fun x => by cases x <;> rfl) (fun x => by cases x <;> rfl) dX12_init_1150 ?_
  refine Wp.nm fun h1328 e1329 => ?_
  have ht := ht h1328 e1329
  have hk1331 : ah_k h1328 t = 12 := by rw [e1329]; exact hk1324
  refine ab_aload_n (i := 0) dX12_init_1153 rfl rfl ?_
  refine ab_bipush (v := 120) dX12_init_1154 (by decide) ?_
  refine ab_newa (N := 120) 14 1 .int (by decide) rfl wa_int (by decide) (by decide) (by decide) (Nat.le_of_ble_eq_true rfl) (Nat.le_of_ble_eq_true rfl) dX12_init_1156 ?_
  obtain ⟨w1332, ew1333⟩ : ∃ z, z = ah_x h1328 := ⟨_, rfl⟩
  rw [← ew1333]
  have ht := ht w1332 ew1333
  refine Wp.nm fun h1334 e1335 => ?_
  have ht := ht h1334 e1335
  have hc1338 := ht.1
  have ht := ht.2
  have hk1337 : ah_k h1334 t = 12 := by rw [e1335, ah_k_nw, if_neg hc1338]; exact hk1331
  have hk1339 : ah_k h1334 w1332 = 14 := by rw [e1335, ew1333, ah_k_nw, if_pos rfl]
  have hn1340 : ah_n h1334 w1332 = 120 := by rw [e1335, ew1333, ah_n_nw, if_pos rfl]
  refine ab_putR (r := (some w1332)) f_X12_153 (Or.inr ⟨rfl, rfl, rfl⟩) rfl hk1337 (fun x => by cases x <;> rfl) (fun x => by cases x <;> rfl) dX12_init_1158 ?_
  refine Wp.nm fun h1341 e1342 => ?_
  have ht := ht h1341 e1342
  have hk1344 : ah_k h1341 t = 12 := by rw [e1342]; exact hk1337
  refine ab_aload_n (i := 0) dX12_init_1161 rfl rfl ?_
  obtain ⟨b1345, hr1346, hk1347, ht⟩ := ht
  refine ab_getR (b := b1345) f_X12_20 rfl hk1344 hr1346 dX12_init_1162 ?_
  refine ab_sipush (v := 243) dX12_init_1165 (by decide) ?_
  refine ab_iconst (v := 3) dX12_init_1168 (by decide) ?_
  obtain ⟨hc1348, ht⟩ := ht
  refine ab_iast hk1347 hc1348 dX12_init_1169 ?_
  refine Wp.nm fun h1349 e1350 => ?_
  have ht := ht h1349 e1350
  have hk1352 : ah_k h1349 t = 12 := by rw [e1350]; exact hk1344
  refine ab_aload_n (i := 0) dX12_init_1170 rfl rfl ?_
  obtain ⟨b1353, hr1354, hk1355, ht⟩ := ht
  refine ab_getR (b := b1353) f_X12_20 rfl hk1352 hr1354 dX12_init_1171 ?_
  refine ab_sipush (v := 252) dX12_init_1174 (by decide) ?_
  refine ab_iconst (v := (-1)) dX12_init_1177 (by decide) ?_
  obtain ⟨hc1356, ht⟩ := ht
  refine ab_iast hk1355 hc1356 dX12_init_1178 ?_
  refine Wp.nm fun h1357 e1358 => ?_
  have ht := ht h1357 e1358
  have hk1360 : ah_k h1357 t = 12 := by rw [e1358]; exact hk1352
  exact ab_vret rfl dX12_init_1179 (Nat.le_of_ble_eq_true rfl) (by first | exact (Nat.le_of_ble_eq_true rfl) | assumption) ht
