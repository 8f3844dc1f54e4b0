theorem dX8_init_0 : decode cX8_init 0 = .ok (.aload_n 0, 1) := by decide +kernel
theorem dX8_init_1 : decode cX8_init 1 = .ok (.invokespecial 1, 3) := by decide +kernel
theorem dX8_init_4 : decode cX8_init 4 = .ok (.aload_n 0, 1) := by decide +kernel
theorem dX8_init_5 : decode cX8_init 5 = .ok (.sipush 700, 3) := by decide +kernel
theorem dX8_init_8 : decode cX8_init 8 = .ok (.newarray .int, 2) := by decide +kernel
theorem dX8_init_10 : decode cX8_init 10 = .ok (.putfield 7, 3) := by decide +kernel
theorem dX8_init_13 : decode cX8_init 13 = .ok (.aload_n 0, 1) := by decide +kernel
theorem dX8_init_14 : decode cX8_init 14 = .ok (.iconst (-1), 1) := by decide +kernel
theorem dX8_init_15 : decode cX8_init 15 = .ok (.putfield 13, 3) := by decide +kernel
theorem dX8_init_18 : decode cX8_init 18 = .ok (.aload_n 0, 1) := by decide +kernel
theorem dX8_init_19 : decode cX8_init 19 = .ok (.iconst 4, 1) := by decide +kernel
theorem dX8_init_20 : decode cX8_init 20 = .ok (.newarray .char, 2) := by decide +kernel
theorem dX8_init_22 : decode cX8_init 22 = .ok (.dup, 1) := by decide +kernel
theorem dX8_init_23 : decode cX8_init 23 = .ok (.iconst 0, 1) := by decide +kernel
theorem dX8_init_24 : decode cX8_init 24 = .ok (.bipush 112, 2) := by decide +kernel
theorem dX8_init_26 : decode cX8_init 26 = .ok (.castore, 1) := by decide +kernel
theorem dX8_init_27 : decode cX8_init 27 = .ok (.dup, 1) := by decide +kernel
theorem dX8_init_28 : decode cX8_init 28 = .ok (.iconst 1, 1) := by decide +kernel
theorem dX8_init_29 : decode cX8_init 29 = .ok (.bipush 105, 2) := by decide +kernel
theorem dX8_init_31 : decode cX8_init 31 = .ok (.castore, 1) := by decide +kernel
theorem dX8_init_32 : decode cX8_init 32 = .ok (.dup, 1) := by decide +kernel
theorem dX8_init_33 : decode cX8_init 33 = .ok (.iconst 2, 1) := by decide +kernel
theorem dX8_init_34 : decode cX8_init 34 = .ok (.bipush 110, 2) := by decide +kernel
theorem dX8_init_36 : decode cX8_init 36 = .ok (.castore, 1) := by decide +kernel
theorem dX8_init_37 : decode cX8_init 37 = .ok (.dup, 1) := by decide +kernel
theorem dX8_init_38 : decode cX8_init 38 = .ok (.iconst 3, 1) := by decide +kernel
theorem dX8_init_39 : decode cX8_init 39 = .ok (.bipush 115, 2) := by decide +kernel
theorem dX8_init_41 : decode cX8_init 41 = .ok (.castore, 1) := by decide +kernel
theorem dX8_init_42 : decode cX8_init 42 = .ok (.putfield 17, 3) := by decide +kernel
theorem dX8_init_45 : decode cX8_init 45 = .ok (.aload_n 0, 1) := by decide +kernel
theorem dX8_init_46 : decode cX8_init 46 = .ok (.bipush 6, 2) := by decide +kernel
theorem dX8_init_48 : decode cX8_init 48 = .ok (.newarray .char, 2) := by decide +kernel
theorem dX8_init_50 : decode cX8_init 50 = .ok (.dup, 1) := by decide +kernel
theorem dX8_init_51 : decode cX8_init 51 = .ok (.iconst 0, 1) := by decide +kernel
theorem dX8_init_52 : decode cX8_init 52 = .ok (.bipush 102, 2) := by decide +kernel
theorem dX8_init_54 : decode cX8_init 54 = .ok (.castore, 1) := by decide +kernel
theorem dX8_init_55 : decode cX8_init 55 = .ok (.dup, 1) := by decide +kernel
theorem dX8_init_56 : decode cX8_init 56 = .ok (.iconst 1, 1) := by decide +kernel
theorem dX8_init_57 : decode cX8_init 57 = .ok (.bipush 114, 2) := by decide +kernel
theorem dX8_init_59 : decode cX8_init 59 = .ok (.castore, 1) := by decide +kernel
theorem dX8_init_60 : decode cX8_init 60 = .ok (.dup, 1) := by decide +kernel
theorem dX8_init_61 : decode cX8_init 61 = .ok (.iconst 2, 1) := by decide +kernel
theorem dX8_init_62 : decode cX8_init 62 = .ok (.bipush 97, 2) := by decide +kernel
theorem dX8_init_64 : decode cX8_init 64 = .ok (.castore, 1) := by decide +kernel
theorem dX8_init_65 : decode cX8_init 65 = .ok (.dup, 1) := by decide +kernel
theorem dX8_init_66 : decode cX8_init 66 = .ok (.iconst 3, 1) := by decide +kernel
theorem dX8_init_67 : decode cX8_init 67 = .ok (.bipush 109, 2) := by decide +kernel
theorem dX8_init_69 : decode cX8_init 69 = .ok (.castore, 1) := by decide +kernel
theorem dX8_init_70 : decode cX8_init 70 = .ok (.dup, 1) := by decide +kernel
theorem dX8_init_71 : decode cX8_init 71 = .ok (.iconst 4, 1) := by decide +kernel
theorem dX8_init_72 : decode cX8_init 72 = .ok (.bipush 101, 2) := by decide +kernel
theorem dX8_init_74 : decode cX8_init 74 = .ok (.castore, 1) := by decide +kernel
theorem dX8_init_75 : decode cX8_init 75 = .ok (.dup, 1) := by decide +kernel
theorem dX8_init_76 : decode cX8_init 76 = .ok (.iconst 5, 1) := by decide +kernel
theorem dX8_init_77 : decode cX8_init 77 = .ok (.bipush 115, 2) := by decide +kernel
theorem dX8_init_79 : decode cX8_init 79 = .ok (.castore, 1) := by decide +kernel
theorem dX8_init_80 : decode cX8_init 80 = .ok (.putfield 21, 3) := by decide +kernel
theorem dX8_init_83 : decode cX8_init 83 = .ok (.aload_n 0, 1) := by decide +kernel
theorem dX8_init_84 : decode cX8_init 84 = .ok (.iconst 5, 1) := by decide +kernel
theorem dX8_init_85 : decode cX8_init 85 = .ok (.newarray .char, 2) := by decide +kernel
theorem dX8_init_87 : decode cX8_init 87 = .ok (.dup, 1) := by decide +kernel
theorem dX8_init_88 : decode cX8_init 88 = .ok (.iconst 0, 1) := by decide +kernel
theorem dX8_init_89 : decode cX8_init 89 = .ok (.bipush 114, 2) := by decide +kernel
theorem dX8_init_91 : decode cX8_init 91 = .ok (.castore, 1) := by decide +kernel
theorem dX8_init_92 : decode cX8_init 92 = .ok (.dup, 1) := by decide +kernel
theorem dX8_init_93 : decode cX8_init 93 = .ok (.iconst 1, 1) := by decide +kernel
theorem dX8_init_94 : decode cX8_init 94 = .ok (.bipush 111, 2) := by decide +kernel
theorem dX8_init_96 : decode cX8_init 96 = .ok (.castore, 1) := by decide +kernel
theorem dX8_init_97 : decode cX8_init 97 = .ok (.dup, 1) := by decide +kernel
theorem dX8_init_98 : decode cX8_init 98 = .ok (.iconst 2, 1) := by decide +kernel
theorem dX8_init_99 : decode cX8_init 99 = .ok (.bipush 108, 2) := by decide +kernel
theorem dX8_init_101 : decode cX8_init 101 = .ok (.castore, 1) := by decide +kernel
theorem dX8_init_102 : decode cX8_init 102 = .ok (.dup, 1) := by decide +kernel
theorem dX8_init_103 : decode cX8_init 103 = .ok (.iconst 3, 1) := by decide +kernel
theorem dX8_init_104 : decode cX8_init 104 = .ok (.bipush 108, 2) := by decide +kernel
theorem dX8_init_106 : decode cX8_init 106 = .ok (.castore, 1) := by decide +kernel
theorem dX8_init_107 : decode cX8_init 107 = .ok (.dup, 1) := by decide +kernel
theorem dX8_init_108 : decode cX8_init 108 = .ok (.iconst 4, 1) := by decide +kernel
theorem dX8_init_109 : decode cX8_init 109 = .ok (.bipush 115, 2) := by decide +kernel
theorem dX8_init_111 : decode cX8_init 111 = .ok (.castore, 1) := by decide +kernel
theorem dX8_init_112 : decode cX8_init 112 = .ok (.putfield 24, 3) := by decide +kernel
theorem dX8_init_115 : decode cX8_init 115 = .ok (.aload_n 0, 1) := by decide +kernel
theorem dX8_init_116 : decode cX8_init 116 = .ok (.iconst 5, 1) := by decide +kernel
theorem dX8_init_117 : decode cX8_init 117 = .ok (.newarray .char, 2) := by decide +kernel
theorem dX8_init_119 : decode cX8_init 119 = .ok (.dup, 1) := by decide +kernel
theorem dX8_init_120 : decode cX8_init 120 = .ok (.iconst 0, 1) := by decide +kernel
theorem dX8_init_121 : decode cX8_init 121 = .ok (.bipush 99, 2) := by decide +kernel
theorem dX8_init_123 : decode cX8_init 123 = .ok (.castore, 1) := by decide +kernel
theorem dX8_init_124 : decode cX8_init 124 = .ok (.dup, 1) := by decide +kernel
theorem dX8_init_125 : decode cX8_init 125 = .ok (.iconst 1, 1) := by decide +kernel
theorem dX8_init_126 : decode cX8_init 126 = .ok (.bipush 108, 2) := by decide +kernel
theorem dX8_init_128 : decode cX8_init 128 = .ok (.castore, 1) := by decide +kernel
theorem dX8_init_129 : decode cX8_init 129 = .ok (.dup, 1) := by decide +kernel
theorem dX8_init_130 : decode cX8_init 130 = .ok (.iconst 2, 1) := by decide +kernel
theorem dX8_init_131 : decode cX8_init 131 = .ok (.bipush 101, 2) := by decide +kernel
theorem dX8_init_133 : decode cX8_init 133 = .ok (.castore, 1) := by decide +kernel
theorem dX8_init_134 : decode cX8_init 134 = .ok (.dup, 1) := by decide +kernel
theorem dX8_init_135 : decode cX8_init 135 = .ok (.iconst 3, 1) := by decide +kernel
theorem dX8_init_136 : decode cX8_init 136 = .ok (.bipush 97, 2) := by decide +kernel
theorem dX8_init_138 : decode cX8_init 138 = .ok (.castore, 1) := by decide +kernel
theorem dX8_init_139 : decode cX8_init 139 = .ok (.dup, 1) := by decide +kernel
theorem dX8_init_140 : decode cX8_init 140 = .ok (.iconst 4, 1) := by decide +kernel
theorem dX8_init_141 : decode cX8_init 141 = .ok (.bipush 110, 2) := by decide +kernel
theorem dX8_init_143 : decode cX8_init 143 = .ok (.castore, 1) := by decide +kernel
theorem dX8_init_144 : decode cX8_init 144 = .ok (.putfield 27, 3) := by decide +kernel
theorem dX8_init_147 : decode cX8_init 147 = .ok (.aload_n 0, 1) := by decide +kernel
theorem dX8_init_148 : decode cX8_init 148 = .ok (.iconst 5, 1) := by decide +kernel
theorem dX8_init_149 : decode cX8_init 149 = .ok (.newarray .char, 2) := by decide +kernel
theorem dX8_init_151 : decode cX8_init 151 = .ok (.dup, 1) := by decide +kernel
theorem dX8_init_152 : decode cX8_init 152 = .ok (.iconst 0, 1) := by decide +kernel
theorem dX8_init_153 : decode cX8_init 153 = .ok (.bipush 101, 2) := by decide +kernel
theorem dX8_init_155 : decode cX8_init 155 = .ok (.castore, 1) := by decide +kernel
theorem dX8_init_156 : decode cX8_init 156 = .ok (.dup, 1) := by decide +kernel
theorem dX8_init_157 : decode cX8_init 157 = .ok (.iconst 1, 1) := by decide +kernel
theorem dX8_init_158 : decode cX8_init 158 = .ok (.bipush 97, 2) := by decide +kernel
theorem dX8_init_160 : decode cX8_init 160 = .ok (.castore, 1) := by decide +kernel
theorem dX8_init_161 : decode cX8_init 161 = .ok (.dup, 1) := by decide +kernel
theorem dX8_init_162 : decode cX8_init 162 = .ok (.iconst 2, 1) := by decide +kernel
theorem dX8_init_163 : decode cX8_init 163 = .ok (.bipush 114, 2) := by decide +kernel
theorem dX8_init_165 : decode cX8_init 165 = .ok (.castore, 1) := by decide +kernel
theorem dX8_init_166 : decode cX8_init 166 = .ok (.dup, 1) := by decide +kernel
theorem dX8_init_167 : decode cX8_init 167 = .ok (.iconst 3, 1) := by decide +kernel
theorem dX8_init_168 : decode cX8_init 168 = .ok (.bipush 110, 2) := by decide +kernel
theorem dX8_init_170 : decode cX8_init 170 = .ok (.castore, 1) := by decide +kernel
theorem dX8_init_171 : decode cX8_init 171 = .ok (.dup, 1) := by decide +kernel
theorem dX8_init_172 : decode cX8_init 172 = .ok (.iconst 4, 1) := by decide +kernel
theorem dX8_init_173 : decode cX8_init 173 = .ok (.bipush 115, 2) := by decide +kernel
theorem dX8_init_175 : decode cX8_init 175 = .ok (.castore, 1) := by decide +kernel
theorem dX8_init_176 : decode cX8_init 176 = .ok (.putfield 30, 3) := by decide +kernel
theorem dX8_init_179 : decode cX8_init 179 = .ok (.aload_n 0, 1) := by decide +kernel
theorem dX8_init_180 : decode cX8_init 180 = .ok (.iconst 4, 1) := by decide +kernel
theorem dX8_init_181 : decode cX8_init 181 = .ok (.newarray .char, 2) := by decide +kernel
theorem dX8_init_183 : decode cX8_init 183 = .ok (.dup, 1) := by decide +kernel
theorem dX8_init_184 : decode cX8_init 184 = .ok (.iconst 0, 1) := by decide +kernel
theorem dX8_init_185 : decode cX8_init 185 = .ok (.bipush 102, 2) := by decide +kernel
theorem dX8_init_187 : decode cX8_init 187 = .ok (.castore, 1) := by decide +kernel
theorem dX8_init_188 : decode cX8_init 188 = .ok (.dup, 1) := by decide +kernel
theorem dX8_init_189 : decode cX8_init 189 = .ok (.iconst 1, 1) := by decide +kernel
theorem dX8_init_190 : decode cX8_init 190 = .ok (.bipush 111, 2) := by decide +kernel
theorem dX8_init_192 : decode cX8_init 192 = .ok (.castore, 1) := by decide +kernel
theorem dX8_init_193 : decode cX8_init 193 = .ok (.dup, 1) := by decide +kernel
theorem dX8_init_194 : decode cX8_init 194 = .ok (.iconst 2, 1) := by decide +kernel
theorem dX8_init_195 : decode cX8_init 195 = .ok (.bipush 117, 2) := by decide +kernel
theorem dX8_init_197 : decode cX8_init 197 = .ok (.castore, 1) := by decide +kernel
theorem dX8_init_198 : decode cX8_init 198 = .ok (.dup, 1) := by decide +kernel
theorem dX8_init_199 : decode cX8_init 199 = .ok (.iconst 3, 1) := by decide +kernel
theorem dX8_init_200 : decode cX8_init 200 = .ok (.bipush 108, 2) := by decide +kernel
theorem dX8_init_202 : decode cX8_init 202 = .ok (.castore, 1) := by decide +kernel
theorem dX8_init_203 : decode cX8_init 203 = .ok (.putfield 33, 3) := by decide +kernel
theorem dX8_init_206 : decode cX8_init 206 = .ok (.aload_n 0, 1) := by decide +kernel
theorem dX8_init_207 : decode cX8_init 207 = .ok (.iconst 5, 1) := by decide +kernel
theorem dX8_init_208 : decode cX8_init 208 = .ok (.newarray .char, 2) := by decide +kernel
theorem dX8_init_210 : decode cX8_init 210 = .ok (.dup, 1) := by decide +kernel
theorem dX8_init_211 : decode cX8_init 211 = .ok (.iconst 0, 1) := by decide +kernel
theorem dX8_init_212 : decode cX8_init 212 = .ok (.bipush 119, 2) := by decide +kernel
theorem dX8_init_214 : decode cX8_init 214 = .ok (.castore, 1) := by decide +kernel
theorem dX8_init_215 : decode cX8_init 215 = .ok (.dup, 1) := by decide +kernel
theorem dX8_init_216 : decode cX8_init 216 = .ok (.iconst 1, 1) := by decide +kernel
theorem dX8_init_217 : decode cX8_init 217 = .ok (.bipush 111, 2) := by decide +kernel
theorem dX8_init_219 : decode cX8_init 219 = .ok (.castore, 1) := by decide +kernel
theorem dX8_init_220 : decode cX8_init 220 = .ok (.dup, 1) := by decide +kernel
theorem dX8_init_221 : decode cX8_init 221 = .ok (.iconst 2, 1) := by decide +kernel
theorem dX8_init_222 : decode cX8_init 222 = .ok (.bipush 114, 2) := by decide +kernel
theorem dX8_init_224 : decode cX8_init 224 = .ok (.castore, 1) := by decide +kernel
theorem dX8_init_225 : decode cX8_init 225 = .ok (.dup, 1) := by decide +kernel
theorem dX8_init_226 : decode cX8_init 226 = .ok (.iconst 3, 1) := by decide +kernel
theorem dX8_init_227 : decode cX8_init 227 = .ok (.bipush 116, 2) := by decide +kernel
theorem dX8_init_229 : decode cX8_init 229 = .ok (.castore, 1) := by decide +kernel
theorem dX8_init_230 : decode cX8_init 230 = .ok (.dup, 1) := by decide +kernel
theorem dX8_init_231 : decode cX8_init 231 = .ok (.iconst 4, 1) := by decide +kernel
theorem dX8_init_232 : decode cX8_init 232 = .ok (.bipush 104, 2) := by decide +kernel
theorem dX8_init_234 : decode cX8_init 234 = .ok (.castore, 1) := by decide +kernel
theorem dX8_init_235 : decode cX8_init 235 = .ok (.putfield 36, 3) := by decide +kernel
theorem dX8_init_238 : decode cX8_init 238 = .ok (.aload_n 0, 1) := by decide +kernel
theorem dX8_init_239 : decode cX8_init 239 = .ok (.iconst 4, 1) := by decide +kernel
theorem dX8_init_240 : decode cX8_init 240 = .ok (.newarray .char, 2) := by decide +kernel
theorem dX8_init_242 : decode cX8_init 242 = .ok (.dup, 1) := by decide +kernel
theorem dX8_init_243 : decode cX8_init 243 = .ok (.iconst 0, 1) := by decide +kernel
theorem dX8_init_244 : decode cX8_init 244 = .ok (.bipush 119, 2) := by decide +kernel
theorem dX8_init_246 : decode cX8_init 246 = .ok (.castore, 1) := by decide +kernel
theorem dX8_init_247 : decode cX8_init 247 = .ok (.dup, 1) := by decide +kernel
theorem dX8_init_248 : decode cX8_init 248 = .ok (.iconst 1, 1) := by decide +kernel
theorem dX8_init_249 : decode cX8_init 249 = .ok (.bipush 104, 2) := by decide +kernel
theorem dX8_init_251 : decode cX8_init 251 = .ok (.castore, 1) := by decide +kernel
theorem dX8_init_252 : decode cX8_init 252 = .ok (.dup, 1) := by decide +kernel
theorem dX8_init_253 : decode cX8_init 253 = .ok (.iconst 2, 1) := by decide +kernel
theorem dX8_init_254 : decode cX8_init 254 = .ok (.bipush 101, 2) := by decide +kernel
theorem dX8_init_256 : decode cX8_init 256 = .ok (.castore, 1) := by decide +kernel
theorem dX8_init_257 : decode cX8_init 257 = .ok (.dup, 1) := by decide +kernel
theorem dX8_init_258 : decode cX8_init 258 = .ok (.iconst 3, 1) := by decide +kernel
theorem dX8_init_259 : decode cX8_init 259 = .ok (.bipush 110, 2) := by decide +kernel
theorem dX8_init_261 : decode cX8_init 261 = .ok (.castore, 1) := by decide +kernel
theorem dX8_init_262 : decode cX8_init 262 = .ok (.putfield 39, 3) := by decide +kernel
theorem dX8_init_265 : decode cX8_init 265 = .ok (.aload_n 0, 1) := by decide +kernel
theorem dX8_init_266 : decode cX8_init 266 = .ok (.bipush 8, 2) := by decide +kernel
theorem dX8_init_268 : decode cX8_init 268 = .ok (.newarray .char, 2) := by decide +kernel
theorem dX8_init_270 : decode cX8_init 270 = .ok (.dup, 1) := by decide +kernel
theorem dX8_init_271 : decode cX8_init 271 = .ok (.iconst 0, 1) := by decide +kernel
theorem dX8_init_272 : decode cX8_init 272 = .ok (.bipush 104, 2) := by decide +kernel
theorem dX8_init_274 : decode cX8_init 274 = .ok (.castore, 1) := by decide +kernel
theorem dX8_init_275 : decode cX8_init 275 = .ok (.dup, 1) := by decide +kernel
theorem dX8_init_276 : decode cX8_init 276 = .ok (.iconst 1, 1) := by decide +kernel
theorem dX8_init_277 : decode cX8_init 277 = .ok (.bipush 97, 2) := by decide +kernel
theorem dX8_init_279 : decode cX8_init 279 = .ok (.castore, 1) := by decide +kernel
theorem dX8_init_280 : decode cX8_init 280 = .ok (.dup, 1) := by decide +kernel
theorem dX8_init_281 : decode cX8_init 281 = .ok (.iconst 2, 1) := by decide +kernel
theorem dX8_init_282 : decode cX8_init 282 = .ok (.bipush 110, 2) := by decide +kernel
theorem dX8_init_284 : decode cX8_init 284 = .ok (.castore, 1) := by decide +kernel
theorem dX8_init_285 : decode cX8_init 285 = .ok (.dup, 1) := by decide +kernel
theorem dX8_init_286 : decode cX8_init 286 = .ok (.iconst 3, 1) := by decide +kernel
theorem dX8_init_287 : decode cX8_init 287 = .ok (.bipush 100, 2) := by decide +kernel
theorem dX8_init_289 : decode cX8_init 289 = .ok (.castore, 1) := by decide +kernel
theorem dX8_init_290 : decode cX8_init 290 = .ok (.dup, 1) := by decide +kernel
theorem dX8_init_291 : decode cX8_init 291 = .ok (.iconst 4, 1) := by decide +kernel
theorem dX8_init_292 : decode cX8_init 292 = .ok (.bipush 105, 2) := by decide +kernel
theorem dX8_init_294 : decode cX8_init 294 = .ok (.castore, 1) := by decide +kernel
theorem dX8_init_295 : decode cX8_init 295 = .ok (.dup, 1) := by decide +kernel
theorem dX8_init_296 : decode cX8_init 296 = .ok (.iconst 5, 1) := by decide +kernel
theorem dX8_init_297 : decode cX8_init 297 = .ok (.bipush 99, 2) := by decide +kernel
theorem dX8_init_299 : decode cX8_init 299 = .ok (.castore, 1) := by decide +kernel
theorem dX8_init_300 : decode cX8_init 300 = .ok (.dup, 1) := by decide +kernel
theorem dX8_init_301 : decode cX8_init 301 = .ok (.bipush 6, 2) := by decide +kernel
theorem dX8_init_303 : decode cX8_init 303 = .ok (.bipush 97, 2) := by decide +kernel
theorem dX8_init_305 : decode cX8_init 305 = .ok (.castore, 1) := by decide +kernel
theorem dX8_init_306 : decode cX8_init 306 = .ok (.dup, 1) := by decide +kernel
theorem dX8_init_307 : decode cX8_init 307 = .ok (.bipush 7, 2) := by decide +kernel
theorem dX8_init_309 : decode cX8_init 309 = .ok (.bipush 112, 2) := by decide +kernel
theorem dX8_init_311 : decode cX8_init 311 = .ok (.castore, 1) := by decide +kernel
theorem dX8_init_312 : decode cX8_init 312 = .ok (.putfield 42, 3) := by decide +kernel
theorem dX8_init_315 : decode cX8_init 315 = .ok (.aload_n 0, 1) := by decide +kernel
theorem dX8_init_316 : decode cX8_init 316 = .ok (.iconst 5, 1) := by decide +kernel
theorem dX8_init_317 : decode cX8_init 317 = .ok (.newarray .char, 2) := by decide +kernel
theorem dX8_init_319 : decode cX8_init 319 = .ok (.dup, 1) := by decide +kernel
theorem dX8_init_320 : decode cX8_init 320 = .ok (.iconst 0, 1) := by decide +kernel
theorem dX8_init_321 : decode cX8_init 321 = .ok (.bipush 106, 2) := by decide +kernel
theorem dX8_init_323 : decode cX8_init 323 = .ok (.castore, 1) := by decide +kernel
theorem dX8_init_324 : decode cX8_init 324 = .ok (.dup, 1) := by decide +kernel
theorem dX8_init_325 : decode cX8_init 325 = .ok (.iconst 1, 1) := by decide +kernel
theorem dX8_init_326 : decode cX8_init 326 = .ok (.bipush 111, 2) := by decide +kernel
theorem dX8_init_328 : decode cX8_init 328 = .ok (.castore, 1) := by decide +kernel
theorem dX8_init_329 : decode cX8_init 329 = .ok (.dup, 1) := by decide +kernel
theorem dX8_init_330 : decode cX8_init 330 = .ok (.iconst 2, 1) := by decide +kernel
theorem dX8_init_331 : decode cX8_init 331 = .ok (.bipush 105, 2) := by decide +kernel
theorem dX8_init_333 : decode cX8_init 333 = .ok (.castore, 1) := by decide +kernel
theorem dX8_init_334 : decode cX8_init 334 = .ok (.dup, 1) := by decide +kernel
theorem dX8_init_335 : decode cX8_init 335 = .ok (.iconst 3, 1) := by decide +kernel
theorem dX8_init_336 : decode cX8_init 336 = .ok (.bipush 110, 2) := by decide +kernel
theorem dX8_init_338 : decode cX8_init 338 = .ok (.castore, 1) := by decide +kernel
theorem dX8_init_339 : decode cX8_init 339 = .ok (.dup, 1) := by decide +kernel
theorem dX8_init_340 : decode cX8_init 340 = .ok (.iconst 4, 1) := by decide +kernel
theorem dX8_init_341 : decode cX8_init 341 = .ok (.bipush 115, 2) := by decide +kernel
theorem dX8_init_343 : decode cX8_init 343 = .ok (.castore, 1) := by decide +kernel
theorem dX8_init_344 : decode cX8_init 344 = .ok (.putfield 45, 3) := by decide +kernel
theorem dX8_init_347 : decode cX8_init 347 = .ok (.aload_n 0, 1) := by decide +kernel
theorem dX8_init_348 : decode cX8_init 348 = .ok (.iconst 2, 1) := by decide +kernel
theorem dX8_init_349 : decode cX8_init 349 = .ok (.newarray .char, 2) := by decide +kernel
theorem dX8_init_351 : decode cX8_init 351 = .ok (.dup, 1) := by decide +kernel
theorem dX8_init_352 : decode cX8_init 352 = .ok (.iconst 0, 1) := by decide +kernel
theorem dX8_init_353 : decode cX8_init 353 = .ok (.bipush 111, 2) := by decide +kernel
theorem dX8_init_355 : decode cX8_init 355 = .ok (.castore, 1) := by decide +kernel
theorem dX8_init_356 : decode cX8_init 356 = .ok (.dup, 1) := by decide +kernel
theorem dX8_init_357 : decode cX8_init 357 = .ok (.iconst 1, 1) := by decide +kernel
theorem dX8_init_358 : decode cX8_init 358 = .ok (.bipush 114, 2) := by decide +kernel
theorem dX8_init_360 : decode cX8_init 360 = .ok (.castore, 1) := by decide +kernel
theorem dX8_init_361 : decode cX8_init 361 = .ok (.putfield 48, 3) := by decide +kernel
theorem dX8_init_364 : decode cX8_init 364 = .ok (.aload_n 0, 1) := by decide +kernel
theorem dX8_init_365 : decode cX8_init 365 = .ok (.iconst 3, 1) := by decide +kernel
theorem dX8_init_366 : decode cX8_init 366 = .ok (.newarray .char, 2) := by decide +kernel
theorem dX8_init_368 : decode cX8_init 368 = .ok (.dup, 1) := by decide +kernel
theorem dX8_init_369 : decode cX8_init 369 = .ok (.iconst 0, 1) := by decide +kernel
theorem dX8_init_370 : decode cX8_init 370 = .ok (.bipush 97, 2) := by decide +kernel
theorem dX8_init_372 : decode cX8_init 372 = .ok (.castore, 1) := by decide +kernel
theorem dX8_init_373 : decode cX8_init 373 = .ok (.dup, 1) := by decide +kernel
theorem dX8_init_374 : decode cX8_init 374 = .ok (.iconst 1, 1) := by decide +kernel
theorem dX8_init_375 : decode cX8_init 375 = .ok (.bipush 110, 2) := by decide +kernel
theorem dX8_init_377 : decode cX8_init 377 = .ok (.castore, 1) := by decide +kernel
theorem dX8_init_378 : decode cX8_init 378 = .ok (.dup, 1) := by decide +kernel
theorem dX8_init_379 : decode cX8_init 379 = .ok (.iconst 2, 1) := by decide +kernel
theorem dX8_init_380 : decode cX8_init 380 = .ok (.bipush 100, 2) := by decide +kernel
theorem dX8_init_382 : decode cX8_init 382 = .ok (.castore, 1) := by decide +kernel
theorem dX8_init_383 : decode cX8_init 383 = .ok (.putfield 51, 3) := by decide +kernel
theorem dX8_init_386 : decode cX8_init 386 = .ok (.aload_n 0, 1) := by decide +kernel
theorem dX8_init_387 : decode cX8_init 387 = .ok (.iconst 3, 1) := by decide +kernel
theorem dX8_init_388 : decode cX8_init 388 = .ok (.newarray .char, 2) := by decide +kernel
theorem dX8_init_390 : decode cX8_init 390 = .ok (.dup, 1) := by decide +kernel
theorem dX8_init_391 : decode cX8_init 391 = .ok (.iconst 0, 1) := by decide +kernel
theorem dX8_init_392 : decode cX8_init 392 = .ok (.bipush 110, 2) := by decide +kernel
theorem dX8_init_394 : decode cX8_init 394 = .ok (.castore, 1) := by decide +kernel
theorem dX8_init_395 : decode cX8_init 395 = .ok (.dup, 1) := by decide +kernel
theorem dX8_init_396 : decode cX8_init 396 = .ok (.iconst 1, 1) := by decide +kernel
theorem dX8_init_397 : decode cX8_init 397 = .ok (.bipush 111, 2) := by decide +kernel
theorem dX8_init_399 : decode cX8_init 399 = .ok (.castore, 1) := by decide +kernel
theorem dX8_init_400 : decode cX8_init 400 = .ok (.dup, 1) := by decide +kernel
theorem dX8_init_401 : decode cX8_init 401 = .ok (.iconst 2, 1) := by decide +kernel
theorem dX8_init_402 : decode cX8_init 402 = .ok (.bipush 116, 2) := by decide +kernel
theorem dX8_init_404 : decode cX8_init 404 = .ok (.castore, 1) := by decide +kernel
theorem dX8_init_405 : decode cX8_init 405 = .ok (.putfield 54, 3) := by decide +kernel
theorem dX8_init_408 : decode cX8_init 408 = .ok (.aload_n 0, 1) := by decide +kernel
theorem dX8_init_409 : decode cX8_init 409 = .ok (.iconst 3, 1) := by decide +kernel
theorem dX8_init_410 : decode cX8_init 410 = .ok (.newarray .char, 2) := by decide +kernel
theorem dX8_init_412 : decode cX8_init 412 = .ok (.dup, 1) := by decide +kernel
theorem dX8_init_413 : decode cX8_init 413 = .ok (.iconst 0, 1) := by decide +kernel
theorem dX8_init_414 : decode cX8_init 414 = .ok (.bipush 97, 2) := by decide +kernel
theorem dX8_init_416 : decode cX8_init 416 = .ok (.castore, 1) := by decide +kernel
theorem dX8_init_417 : decode cX8_init 417 = .ok (.dup, 1) := by decide +kernel
theorem dX8_init_418 : decode cX8_init 418 = .ok (.iconst 1, 1) := by decide +kernel
theorem dX8_init_419 : decode cX8_init 419 = .ok (.bipush 108, 2) := by decide +kernel
theorem dX8_init_421 : decode cX8_init 421 = .ok (.castore, 1) := by decide +kernel
theorem dX8_init_422 : decode cX8_init 422 = .ok (.dup, 1) := by decide +kernel
theorem dX8_init_423 : decode cX8_init 423 = .ok (.iconst 2, 1) := by decide +kernel
theorem dX8_init_424 : decode cX8_init 424 = .ok (.bipush 108, 2) := by decide +kernel
theorem dX8_init_426 : decode cX8_init 426 = .ok (.castore, 1) := by decide +kernel
theorem dX8_init_427 : decode cX8_init 427 = .ok (.putfield 57, 3) := by decide +kernel
theorem dX8_init_430 : decode cX8_init 430 = .ok (.aload_n 0, 1) := by decide +kernel
theorem dX8_init_431 : decode cX8_init 431 = .ok (.iconst 5, 1) := by decide +kernel
theorem dX8_init_432 : decode cX8_init 432 = .ok (.newarray .char, 2) := by decide +kernel
theorem dX8_init_434 : decode cX8_init 434 = .ok (.dup, 1) := by decide +kernel
theorem dX8_init_435 : decode cX8_init 435 = .ok (.iconst 0, 1) := by decide +kernel
theorem dX8_init_436 : decode cX8_init 436 = .ok (.bipush 102, 2) := by decide +kernel
theorem dX8_init_438 : decode cX8_init 438 = .ok (.castore, 1) := by decide +kernel
theorem dX8_init_439 : decode cX8_init 439 = .ok (.dup, 1) := by decide +kernel
theorem dX8_init_440 : decode cX8_init 440 = .ok (.iconst 1, 1) := by decide +kernel
theorem dX8_init_441 : decode cX8_init 441 = .ok (.bipush 114, 2) := by decide +kernel
theorem dX8_init_443 : decode cX8_init 443 = .ok (.castore, 1) := by decide +kernel
theorem dX8_init_444 : decode cX8_init 444 = .ok (.dup, 1) := by decide +kernel
theorem dX8_init_445 : decode cX8_init 445 = .ok (.iconst 2, 1) := by decide +kernel
theorem dX8_init_446 : decode cX8_init 446 = .ok (.bipush 97, 2) := by decide +kernel
theorem dX8_init_448 : decode cX8_init 448 = .ok (.castore, 1) := by decide +kernel
theorem dX8_init_449 : decode cX8_init 449 = .ok (.dup, 1) := by decide +kernel
theorem dX8_init_450 : decode cX8_init 450 = .ok (.iconst 3, 1) := by decide +kernel
theorem dX8_init_451 : decode cX8_init 451 = .ok (.bipush 109, 2) := by decide +kernel
theorem dX8_init_453 : decode cX8_init 453 = .ok (.castore, 1) := by decide +kernel
theorem dX8_init_454 : decode cX8_init 454 = .ok (.dup, 1) := by decide +kernel
theorem dX8_init_455 : decode cX8_init 455 = .ok (.iconst 4, 1) := by decide +kernel
theorem dX8_init_456 : decode cX8_init 456 = .ok (.bipush 101, 2) := by decide +kernel
theorem dX8_init_458 : decode cX8_init 458 = .ok (.castore, 1) := by decide +kernel
theorem dX8_init_459 : decode cX8_init 459 = .ok (.putfield 60, 3) := by decide +kernel
theorem dX8_init_462 : decode cX8_init 462 = .ok (.aload_n 0, 1) := by decide +kernel
theorem dX8_init_463 : decode cX8_init 463 = .ok (.iconst 4, 1) := by decide +kernel
theorem dX8_init_464 : decode cX8_init 464 = .ok (.newarray .char, 2) := by decide +kernel
theorem dX8_init_466 : decode cX8_init 466 = .ok (.dup, 1) := by decide +kernel
theorem dX8_init_467 : decode cX8_init 467 = .ok (.iconst 0, 1) := by decide +kernel
theorem dX8_init_468 : decode cX8_init 468 = .ok (.bipush 100, 2) := by decide +kernel
theorem dX8_init_470 : decode cX8_init 470 = .ok (.castore, 1) := by decide +kernel
theorem dX8_init_471 : decode cX8_init 471 = .ok (.dup, 1) := by decide +kernel
theorem dX8_init_472 : decode cX8_init 472 = .ok (.iconst 1, 1) := by decide +kernel
theorem dX8_init_473 : decode cX8_init 473 = .ok (.bipush 111, 2) := by decide +kernel
theorem dX8_init_475 : decode cX8_init 475 = .ok (.castore, 1) := by decide +kernel
theorem dX8_init_476 : decode cX8_init 476 = .ok (.dup, 1) := by decide +kernel
theorem dX8_init_477 : decode cX8_init 477 = .ok (.iconst 2, 1) := by decide +kernel
theorem dX8_init_478 : decode cX8_init 478 = .ok (.bipush 119, 2) := by decide +kernel
theorem dX8_init_480 : decode cX8_init 480 = .ok (.castore, 1) := by decide +kernel
theorem dX8_init_481 : decode cX8_init 481 = .ok (.dup, 1) := by decide +kernel
theorem dX8_init_482 : decode cX8_init 482 = .ok (.iconst 3, 1) := by decide +kernel
theorem dX8_init_483 : decode cX8_init 483 = .ok (.bipush 110, 2) := by decide +kernel
theorem dX8_init_485 : decode cX8_init 485 = .ok (.castore, 1) := by decide +kernel
theorem dX8_init_486 : decode cX8_init 486 = .ok (.putfield 63, 3) := by decide +kernel
theorem dX8_init_489 : decode cX8_init 489 = .ok (.aload_n 0, 1) := by decide +kernel
theorem dX8_init_490 : decode cX8_init 490 = .ok (.iconst 4, 1) := by decide +kernel
theorem dX8_init_491 : decode cX8_init 491 = .ok (.newarray .char, 2) := by decide +kernel
theorem dX8_init_493 : decode cX8_init 493 = .ok (.dup, 1) := by decide +kernel
theorem dX8_init_494 : decode cX8_init 494 = .ok (.iconst 0, 1) := by decide +kernel
theorem dX8_init_495 : decode cX8_init 495 = .ok (.bipush 117, 2) := by decide +kernel
theorem dX8_init_497 : decode cX8_init 497 = .ok (.castore, 1) := by decide +kernel
theorem dX8_init_498 : decode cX8_init 498 = .ok (.dup, 1) := by decide +kernel
theorem dX8_init_499 : decode cX8_init 499 = .ok (.iconst 1, 1) := by decide +kernel
theorem dX8_init_500 : decode cX8_init 500 = .ok (.bipush 115, 2) := by decide +kernel
theorem dX8_init_502 : decode cX8_init 502 = .ok (.castore, 1) := by decide +kernel
theorem dX8_init_503 : decode cX8_init 503 = .ok (.dup, 1) := by decide +kernel
theorem dX8_init_504 : decode cX8_init 504 = .ok (.iconst 2, 1) := by decide +kernel
theorem dX8_init_505 : decode cX8_init 505 = .ok (.bipush 101, 2) := by decide +kernel
theorem dX8_init_507 : decode cX8_init 507 = .ok (.castore, 1) := by decide +kernel
theorem dX8_init_508 : decode cX8_init 508 = .ok (.dup, 1) := by decide +kernel
theorem dX8_init_509 : decode cX8_init 509 = .ok (.iconst 3, 1) := by decide +kernel
theorem dX8_init_510 : decode cX8_init 510 = .ok (.bipush 100, 2) := by decide +kernel
theorem dX8_init_512 : decode cX8_init 512 = .ok (.castore, 1) := by decide +kernel
theorem dX8_init_513 : decode cX8_init 513 = .ok (.putfield 66, 3) := by decide +kernel
theorem dX8_init_516 : decode cX8_init 516 = .ok (.aload_n 0, 1) := by decide +kernel
theorem dX8_init_517 : decode cX8_init 517 = .ok (.iconst 5, 1) := by decide +kernel
theorem dX8_init_518 : decode cX8_init 518 = .ok (.newarray .char, 2) := by decide +kernel
theorem dX8_init_520 : decode cX8_init 520 = .ok (.dup, 1) := by decide +kernel
theorem dX8_init_521 : decode cX8_init 521 = .ok (.iconst 0, 1) := by decide +kernel
theorem dX8_init_522 : decode cX8_init 522 = .ok (.bipush 102, 2) := by decide +kernel
theorem dX8_init_524 : decode cX8_init 524 = .ok (.castore, 1) := by decide +kernel
theorem dX8_init_525 : decode cX8_init 525 = .ok (.dup, 1) := by decide +kernel
theorem dX8_init_526 : decode cX8_init 526 = .ok (.iconst 1, 1) := by decide +kernel
theorem dX8_init_527 : decode cX8_init 527 = .ok (.bipush 111, 2) := by decide +kernel
theorem dX8_init_529 : decode cX8_init 529 = .ok (.castore, 1) := by decide +kernel
theorem dX8_init_530 : decode cX8_init 530 = .ok (.dup, 1) := by decide +kernel
theorem dX8_init_531 : decode cX8_init 531 = .ok (.iconst 2, 1) := by decide +kernel
theorem dX8_init_532 : decode cX8_init 532 = .ok (.bipush 117, 2) := by decide +kernel
theorem dX8_init_534 : decode cX8_init 534 = .ok (.castore, 1) := by decide +kernel
theorem dX8_init_535 : decode cX8_init 535 = .ok (.dup, 1) := by decide +kernel
theorem dX8_init_536 : decode cX8_init 536 = .ok (.iconst 3, 1) := by decide +kernel
theorem dX8_init_537 : decode cX8_init 537 = .ok (.bipush 108, 2) := by decide +kernel
theorem dX8_init_539 : decode cX8_init 539 = .ok (.castore, 1) := by decide +kernel
theorem dX8_init_540 : decode cX8_init 540 = .ok (.dup, 1) := by decide +kernel
theorem dX8_init_541 : decode cX8_init 541 = .ok (.iconst 4, 1) := by decide +kernel
theorem dX8_init_542 : decode cX8_init 542 = .ok (.bipush 115, 2) := by decide +kernel
theorem dX8_init_544 : decode cX8_init 544 = .ok (.castore, 1) := by decide +kernel
theorem dX8_init_545 : decode cX8_init 545 = .ok (.putfield 69, 3) := by decide +kernel
theorem dX8_init_548 : decode cX8_init 548 = .ok (.aload_n 0, 1) := by decide +kernel
theorem dX8_init_549 : decode cX8_init 549 = .ok (.iconst 4, 1) := by decide +kernel
theorem dX8_init_550 : decode cX8_init 550 = .ok (.newarray .char, 2) := by decide +kernel
theorem dX8_init_552 : decode cX8_init 552 = .ok (.dup, 1) := by decide +kernel
theorem dX8_init_553 : decode cX8_init 553 = .ok (.iconst 0, 1) := by decide +kernel
theorem dX8_init_554 : decode cX8_init 554 = .ok (.bipush 109, 2) := by decide +kernel
theorem dX8_init_556 : decode cX8_init 556 = .ok (.castore, 1) := by decide +kernel
theorem dX8_init_557 : decode cX8_init 557 = .ok (.dup, 1) := by decide +kernel
theorem dX8_init_558 : decode cX8_init 558 = .ok (.iconst 1, 1) := by decide +kernel
theorem dX8_init_559 : decode cX8_init 559 = .ok (.bipush 101, 2) := by decide +kernel
theorem dX8_init_561 : decode cX8_init 561 = .ok (.castore, 1) := by decide +kernel
theorem dX8_init_562 : decode cX8_init 562 = .ok (.dup, 1) := by decide +kernel
theorem dX8_init_563 : decode cX8_init 563 = .ok (.iconst 2, 1) := by decide +kernel
theorem dX8_init_564 : decode cX8_init 564 = .ok (.bipush 97, 2) := by decide +kernel
theorem dX8_init_566 : decode cX8_init 566 = .ok (.castore, 1) := by decide +kernel
theorem dX8_init_567 : decode cX8_init 567 = .ok (.dup, 1) := by decide +kernel
theorem dX8_init_568 : decode cX8_init 568 = .ok (.iconst 3, 1) := by decide +kernel
theorem dX8_init_569 : decode cX8_init 569 = .ok (.bipush 110, 2) := by decide +kernel
theorem dX8_init_571 : decode cX8_init 571 = .ok (.castore, 1) := by decide +kernel
theorem dX8_init_572 : decode cX8_init 572 = .ok (.putfield 72, 3) := by decide +kernel
theorem dX8_init_575 : decode cX8_init 575 = .ok (.aload_n 0, 1) := by decide +kernel
theorem dX8_init_576 : decode cX8_init 576 = .ok (.iconst 5, 1) := by decide +kernel
theorem dX8_init_577 : decode cX8_init 577 = .ok (.newarray .char, 2) := by decide +kernel
theorem dX8_init_579 : decode cX8_init 579 = .ok (.dup, 1) := by decide +kernel
theorem dX8_init_580 : decode cX8_init 580 = .ok (.iconst 0, 1) := by decide +kernel
theorem dX8_init_581 : decode cX8_init 581 = .ok (.bipush 103, 2) := by decide +kernel
theorem dX8_init_583 : decode cX8_init 583 = .ok (.castore, 1) := by decide +kernel
theorem dX8_init_584 : decode cX8_init 584 = .ok (.dup, 1) := by decide +kernel
theorem dX8_init_585 : decode cX8_init 585 = .ok (.iconst 1, 1) := by decide +kernel
theorem dX8_init_586 : decode cX8_init 586 = .ok (.bipush 97, 2) := by decide +kernel
theorem dX8_init_588 : decode cX8_init 588 = .ok (.castore, 1) := by decide +kernel
theorem dX8_init_589 : decode cX8_init 589 = .ok (.dup, 1) := by decide +kernel
theorem dX8_init_590 : decode cX8_init 590 = .ok (.iconst 2, 1) := by decide +kernel
theorem dX8_init_591 : decode cX8_init 591 = .ok (.bipush 109, 2) := by decide +kernel
theorem dX8_init_593 : decode cX8_init 593 = .ok (.castore, 1) := by decide +kernel
theorem dX8_init_594 : decode cX8_init 594 = .ok (.dup, 1) := by decide +kernel
theorem dX8_init_595 : decode cX8_init 595 = .ok (.iconst 3, 1) := by decide +kernel
theorem dX8_init_596 : decode cX8_init 596 = .ok (.bipush 101, 2) := by decide +kernel
theorem dX8_init_598 : decode cX8_init 598 = .ok (.castore, 1) := by decide +kernel
theorem dX8_init_599 : decode cX8_init 599 = .ok (.dup, 1) := by decide +kernel
theorem dX8_init_600 : decode cX8_init 600 = .ok (.iconst 4, 1) := by decide +kernel
theorem dX8_init_601 : decode cX8_init 601 = .ok (.bipush 115, 2) := by decide +kernel
theorem dX8_init_603 : decode cX8_init 603 = .ok (.castore, 1) := by decide +kernel
theorem dX8_init_604 : decode cX8_init 604 = .ok (.putfield 75, 3) := by decide +kernel
theorem dX8_init_607 : decode cX8_init 607 = .ok (.aload_n 0, 1) := by decide +kernel
theorem dX8_init_608 : decode cX8_init 608 = .ok (.iconst 3, 1) := by decide +kernel
theorem dX8_init_609 : decode cX8_init 609 = .ok (.newarray .char, 2) := by decide +kernel
theorem dX8_init_611 : decode cX8_init 611 = .ok (.dup, 1) := by decide +kernel
theorem dX8_init_612 : decode cX8_init 612 = .ok (.iconst 0, 1) := by decide +kernel
theorem dX8_init_613 : decode cX8_init 613 = .ok (.bipush 109, 2) := by decide +kernel
theorem dX8_init_615 : decode cX8_init 615 = .ok (.castore, 1) := by decide +kernel
theorem dX8_init_616 : decode cX8_init 616 = .ok (.dup, 1) := by decide +kernel
theorem dX8_init_617 : decode cX8_init 617 = .ok (.iconst 1, 1) := by decide +kernel
theorem dX8_init_618 : decode cX8_init 618 = .ok (.bipush 105, 2) := by decide +kernel
theorem dX8_init_620 : decode cX8_init 620 = .ok (.castore, 1) := by decide +kernel
theorem dX8_init_621 : decode cX8_init 621 = .ok (.dup, 1) := by decide +kernel
theorem dX8_init_622 : decode cX8_init 622 = .ok (.iconst 2, 1) := by decide +kernel
theorem dX8_init_623 : decode cX8_init 623 = .ok (.bipush 110, 2) := by decide +kernel
theorem dX8_init_625 : decode cX8_init 625 = .ok (.castore, 1) := by decide +kernel
theorem dX8_init_626 : decode cX8_init 626 = .ok (.putfield 78, 3) := by decide +kernel
theorem dX8_init_629 : decode cX8_init 629 = .ok (.aload_n 0, 1) := by decide +kernel
theorem dX8_init_630 : decode cX8_init 630 = .ok (.iconst 3, 1) := by decide +kernel
theorem dX8_init_631 : decode cX8_init 631 = .ok (.newarray .char, 2) := by decide +kernel
theorem dX8_init_633 : decode cX8_init 633 = .ok (.dup, 1) := by decide +kernel
theorem dX8_init_634 : decode cX8_init 634 = .ok (.iconst 0, 1) := by decide +kernel
theorem dX8_init_635 : decode cX8_init 635 = .ok (.bipush 109, 2) := by decide +kernel
theorem dX8_init_637 : decode cX8_init 637 = .ok (.castore, 1) := by decide +kernel
theorem dX8_init_638 : decode cX8_init 638 = .ok (.dup, 1) := by decide +kernel
theorem dX8_init_639 : decode cX8_init 639 = .ok (.iconst 1, 1) := by decide +kernel
theorem dX8_init_640 : decode cX8_init 640 = .ok (.bipush 97, 2) := by decide +kernel
theorem dX8_init_642 : decode cX8_init 642 = .ok (.castore, 1) := by decide +kernel
theorem dX8_init_643 : decode cX8_init 643 = .ok (.dup, 1) := by decide +kernel
theorem dX8_init_644 : decode cX8_init 644 = .ok (.iconst 2, 1) := by decide +kernel
theorem dX8_init_645 : decode cX8_init 645 = .ok (.bipush 120, 2) := by decide +kernel
theorem dX8_init_647 : decode cX8_init 647 = .ok (.castore, 1) := by decide +kernel
theorem dX8_init_648 : decode cX8_init 648 = .ok (.putfield 81, 3) := by decide +kernel
theorem dX8_init_651 : decode cX8_init 651 = .ok (.aload_n 0, 1) := by decide +kernel
theorem dX8_init_652 : decode cX8_init 652 = .ok (.iconst 2, 1) := by decide +kernel
theorem dX8_init_653 : decode cX8_init 653 = .ok (.newarray .int, 2) := by decide +kernel
theorem dX8_init_655 : decode cX8_init 655 = .ok (.dup, 1) := by decide +kernel
theorem dX8_init_656 : decode cX8_init 656 = .ok (.iconst 0, 1) := by decide +kernel
theorem dX8_init_657 : decode cX8_init 657 = .ok (.bipush 9, 2) := by decide +kernel
theorem dX8_init_659 : decode cX8_init 659 = .ok (.iastore, 1) := by decide +kernel
theorem dX8_init_660 : decode cX8_init 660 = .ok (.dup, 1) := by decide +kernel
theorem dX8_init_661 : decode cX8_init 661 = .ok (.iconst 1, 1) := by decide +kernel
theorem dX8_init_662 : decode cX8_init 662 = .ok (.bipush 9, 2) := by decide +kernel
theorem dX8_init_664 : decode cX8_init 664 = .ok (.iastore, 1) := by decide +kernel
theorem dX8_init_665 : decode cX8_init 665 = .ok (.putfield 84, 3) := by decide +kernel
theorem dX8_init_668 : decode cX8_init 668 = .ok (.aload_n 0, 1) := by decide +kernel
theorem dX8_init_669 : decode cX8_init 669 = .ok (.iconst 2, 1) := by decide +kernel
theorem dX8_init_670 : decode cX8_init 670 = .ok (.newarray .int, 2) := by decide +kernel
theorem dX8_init_672 : decode cX8_init 672 = .ok (.dup, 1) := by decide +kernel
theorem dX8_init_673 : decode cX8_init 673 = .ok (.iconst 0, 1) := by decide +kernel
theorem dX8_init_674 : decode cX8_init 674 = .ok (.bipush 6, 2) := by decide +kernel
theorem dX8_init_676 : decode cX8_init 676 = .ok (.iastore, 1) := by decide +kernel
theorem dX8_init_677 : decode cX8_init 677 = .ok (.dup, 1) := by decide +kernel
theorem dX8_init_678 : decode cX8_init 678 = .ok (.iconst 1, 1) := by decide +kernel
theorem dX8_init_679 : decode cX8_init 679 = .ok (.bipush 6, 2) := by decide +kernel
theorem dX8_init_681 : decode cX8_init 681 = .ok (.iastore, 1) := by decide +kernel
theorem dX8_init_682 : decode cX8_init 682 = .ok (.putfield 87, 3) := by decide +kernel
theorem dX8_init_685 : decode cX8_init 685 = .ok (.aload_n 0, 1) := by decide +kernel
theorem dX8_init_686 : decode cX8_init 686 = .ok (.iconst 2, 1) := by decide +kernel
theorem dX8_init_687 : decode cX8_init 687 = .ok (.newarray .int, 2) := by decide +kernel
theorem dX8_init_689 : decode cX8_init 689 = .ok (.dup, 1) := by decide +kernel
theorem dX8_init_690 : decode cX8_init 690 = .ok (.iconst 0, 1) := by decide +kernel
theorem dX8_init_691 : decode cX8_init 691 = .ok (.iconst 2, 1) := by decide +kernel
theorem dX8_init_692 : decode cX8_init 692 = .ok (.iastore, 1) := by decide +kernel
theorem dX8_init_693 : decode cX8_init 693 = .ok (.dup, 1) := by decide +kernel
theorem dX8_init_694 : decode cX8_init 694 = .ok (.iconst 1, 1) := by decide +kernel
theorem dX8_init_695 : decode cX8_init 695 = .ok (.iconst 2, 1) := by decide +kernel
theorem dX8_init_696 : decode cX8_init 696 = .ok (.iastore, 1) := by decide +kernel
theorem dX8_init_697 : decode cX8_init 697 = .ok (.putfield 90, 3) := by decide +kernel
theorem dX8_init_700 : decode cX8_init 700 = .ok (.aload_n 0, 1) := by decide +kernel
theorem dX8_init_701 : decode cX8_init 701 = .ok (.iconst 2, 1) := by decide +kernel
theorem dX8_init_702 : decode cX8_init 702 = .ok (.newarray .int, 2) := by decide +kernel
theorem dX8_init_704 : decode cX8_init 704 = .ok (.putfield 93, 3) := by decide +kernel
theorem dX8_init_707 : decode cX8_init 707 = .ok (.aload_n 0, 1) := by decide +kernel
theorem dX8_init_708 : decode cX8_init 708 = .ok (.bipush 8, 2) := by decide +kernel
theorem dX8_init_710 : decode cX8_init 710 = .ok (.newarray .int, 2) := by decide +kernel
theorem dX8_init_712 : decode cX8_init 712 = .ok (.putfield 96, 3) := by decide +kernel
theorem dX8_init_715 : decode cX8_init 715 = .ok (.aload_n 0, 1) := by decide +kernel
theorem dX8_init_716 : decode cX8_init 716 = .ok (.iconst 2, 1) := by decide +kernel
theorem dX8_init_717 : decode cX8_init 717 = .ok (.newarray .int, 2) := by decide +kernel
theorem dX8_init_719 : decode cX8_init 719 = .ok (.putfield 99, 3) := by decide +kernel
theorem dX8_init_722 : decode cX8_init 722 = .ok (.aload_n 0, 1) := by decide +kernel
theorem dX8_init_723 : decode cX8_init 723 = .ok (.bipush 60, 2) := by decide +kernel
theorem dX8_init_725 : decode cX8_init 725 = .ok (.newarray .int, 2) := by decide +kernel
theorem dX8_init_727 : decode cX8_init 727 = .ok (.putfield 102, 3) := by decide +kernel
theorem dX8_init_730 : decode cX8_init 730 = .ok (.aload_n 0, 1) := by decide +kernel
theorem dX8_init_731 : decode cX8_init 731 = .ok (.bipush 60, 2) := by decide +kernel
theorem dX8_init_733 : decode cX8_init 733 = .ok (.newarray .int, 2) := by decide +kernel
theorem dX8_init_735 : decode cX8_init 735 = .ok (.putfield 105, 3) := by decide +kernel
theorem dX8_init_738 : decode cX8_init 738 = .ok (.aload_n 0, 1) := by decide +kernel
theorem dX8_init_739 : decode cX8_init 739 = .ok (.bipush 60, 2) := by decide +kernel
theorem dX8_init_741 : decode cX8_init 741 = .ok (.newarray .int, 2) := by decide +kernel
theorem dX8_init_743 : decode cX8_init 743 = .ok (.putfield 108, 3) := by decide +kernel
theorem dX8_init_746 : decode cX8_init 746 = .ok (.aload_n 0, 1) := by decide +kernel
theorem dX8_init_747 : decode cX8_init 747 = .ok (.iconst 2, 1) := by decide +kernel
theorem dX8_init_748 : decode cX8_init 748 = .ok (.newarray .int, 2) := by decide +kernel
theorem dX8_init_750 : decode cX8_init 750 = .ok (.putfield 111, 3) := by decide +kernel
theorem dX8_init_753 : decode cX8_init 753 = .ok (.aload_n 0, 1) := by decide +kernel
theorem dX8_init_754 : decode cX8_init 754 = .ok (.iconst 2, 1) := by decide +kernel
theorem dX8_init_755 : decode cX8_init 755 = .ok (.newarray .int, 2) := by decide +kernel
theorem dX8_init_757 : decode cX8_init 757 = .ok (.putfield 114, 3) := by decide +kernel
theorem dX8_init_760 : decode cX8_init 760 = .ok (.aload_n 0, 1) := by decide +kernel
theorem dX8_init_761 : decode cX8_init 761 = .ok (.sipush 162, 3) := by decide +kernel
theorem dX8_init_764 : decode cX8_init 764 = .ok (.newarray .boolean, 2) := by decide +kernel
theorem dX8_init_766 : decode cX8_init 766 = .ok (.putfield 117, 3) := by decide +kernel
theorem dX8_init_769 : decode cX8_init 769 = .ok (.aload_n 0, 1) := by decide +kernel
theorem dX8_init_770 : decode cX8_init 770 = .ok (.sipush 1400, 3) := by decide +kernel
theorem dX8_init_773 : decode cX8_init 773 = .ok (.newarray .int, 2) := by decide +kernel
theorem dX8_init_775 : decode cX8_init 775 = .ok (.putfield 121, 3) := by decide +kernel
theorem dX8_init_778 : decode cX8_init 778 = .ok (.aload_n 0, 1) := by decide +kernel
theorem dX8_init_779 : decode cX8_init 779 = .ok (.sipush 800, 3) := by decide +kernel
theorem dX8_init_782 : decode cX8_init 782 = .ok (.newarray .int, 2) := by decide +kernel
theorem dX8_init_784 : decode cX8_init 784 = .ok (.putfield 124, 3) := by decide +kernel
theorem dX8_init_787 : decode cX8_init 787 = .ok (.aload_n 0, 1) := by decide +kernel
theorem dX8_init_788 : decode cX8_init 788 = .ok (.sipush 700, 3) := by decide +kernel
theorem dX8_init_791 : decode cX8_init 791 = .ok (.newarray .long, 2) := by decide +kernel
theorem dX8_init_793 : decode cX8_init 793 = .ok (.putfield 127, 3) := by decide +kernel
theorem dX8_init_796 : decode cX8_init 796 = .ok (.aload_n 0, 1) := by decide +kernel
theorem dX8_init_797 : decode cX8_init 797 = .ok (.bipush 40, 2) := by decide +kernel
theorem dX8_init_799 : decode cX8_init 799 = .ok (.newarray .int, 2) := by decide +kernel
theorem dX8_init_801 : decode cX8_init 801 = .ok (.putfield 131, 3) := by decide +kernel
theorem dX8_init_804 : decode cX8_init 804 = .ok (.aload_n 0, 1) := by decide +kernel
theorem dX8_init_805 : decode cX8_init 805 = .ok (.bipush 9, 2) := by decide +kernel
theorem dX8_init_807 : decode cX8_init 807 = .ok (.newarray .int, 2) := by decide +kernel
theorem dX8_init_809 : decode cX8_init 809 = .ok (.putfield 134, 3) := by decide +kernel
theorem dX8_init_812 : decode cX8_init 812 = .ok (.aload_n 0, 1) := by decide +kernel
theorem dX8_init_813 : decode cX8_init 813 = .ok (.bipush 9, 2) := by decide +kernel
theorem dX8_init_815 : decode cX8_init 815 = .ok (.newarray .int, 2) := by decide +kernel
theorem dX8_init_817 : decode cX8_init 817 = .ok (.putfield 137, 3) := by decide +kernel
theorem dX8_init_820 : decode cX8_init 820 = .ok (.aload_n 0, 1) := by decide +kernel
theorem dX8_init_821 : decode cX8_init 821 = .ok (.bipush 9, 2) := by decide +kernel
theorem dX8_init_823 : decode cX8_init 823 = .ok (.newarray .int, 2) := by decide +kernel
theorem dX8_init_825 : decode cX8_init 825 = .ok (.putfield 140, 3) := by decide +kernel
theorem dX8_init_828 : decode cX8_init 828 = .ok (.aload_n 0, 1) := by decide +kernel
theorem dX8_init_829 : decode cX8_init 829 = .ok (.bipush 9, 2) := by decide +kernel
theorem dX8_init_831 : decode cX8_init 831 = .ok (.newarray .int, 2) := by decide +kernel
theorem dX8_init_833 : decode cX8_init 833 = .ok (.putfield 143, 3) := by decide +kernel
theorem dX8_init_836 : decode cX8_init 836 = .ok (.aload_n 0, 1) := by decide +kernel
theorem dX8_init_837 : decode cX8_init 837 = .ok (.bipush 9, 2) := by decide +kernel
theorem dX8_init_839 : decode cX8_init 839 = .ok (.newarray .int, 2) := by decide +kernel
theorem dX8_init_841 : decode cX8_init 841 = .ok (.putfield 146, 3) := by decide +kernel
theorem dX8_init_844 : decode cX8_init 844 = .ok (.aload_n 0, 1) := by decide +kernel
theorem dX8_init_845 : decode cX8_init 845 = .ok (.ldc 149, 2) := by decide +kernel
theorem dX8_init_847 : decode cX8_init 847 = .ok (.newarray .long, 2) := by decide +kernel
theorem dX8_init_849 : decode cX8_init 849 = .ok (.putfield 150, 3) := by decide +kernel
theorem dX8_init_852 : decode cX8_init 852 = .ok (.aload_n 0, 1) := by decide +kernel
theorem dX8_init_853 : decode cX8_init 853 = .ok (.ldc 149, 2) := by decide +kernel
theorem dX8_init_855 : decode cX8_init 855 = .ok (.newarray .long, 2) := by decide +kernel
theorem dX8_init_857 : decode cX8_init 857 = .ok (.putfield 153, 3) := by decide +kernel
theorem dX8_init_860 : decode cX8_init 860 = .ok (.aload_n 0, 1) := by decide +kernel
theorem dX8_init_861 : decode cX8_init 861 = .ok (.iconst 3, 1) := by decide +kernel
theorem dX8_init_862 : decode cX8_init 862 = .ok (.newarray .int, 2) := by decide +kernel
theorem dX8_init_864 : decode cX8_init 864 = .ok (.putfield 156, 3) := by decide +kernel
theorem dX8_init_867 : decode cX8_init 867 = .ok (.aload_n 0, 1) := by decide +kernel
theorem dX8_init_868 : decode cX8_init 868 = .ok (.sipush 2120, 3) := by decide +kernel
theorem dX8_init_871 : decode cX8_init 871 = .ok (.newarray .long, 2) := by decide +kernel
theorem dX8_init_873 : decode cX8_init 873 = .ok (.putfield 159, 3) := by decide +kernel
theorem dX8_init_876 : decode cX8_init 876 = .ok (.aload_n 0, 1) := by decide +kernel
theorem dX8_init_877 : decode cX8_init 877 = .ok (.sipush 25440, 3) := by decide +kernel
theorem dX8_init_880 : decode cX8_init 880 = .ok (.newarray .boolean, 2) := by decide +kernel
theorem dX8_init_882 : decode cX8_init 882 = .ok (.putfield 162, 3) := by decide +kernel
theorem dX8_init_885 : decode cX8_init 885 = .ok (.aload_n 0, 1) := by decide +kernel
theorem dX8_init_886 : decode cX8_init 886 = .ok (.sipush 25440, 3) := by decide +kernel
theorem dX8_init_889 : decode cX8_init 889 = .ok (.newarray .boolean, 2) := by decide +kernel
theorem dX8_init_891 : decode cX8_init 891 = .ok (.putfield 165, 3) := by decide +kernel
theorem dX8_init_894 : decode cX8_init 894 = .ok (.aload_n 0, 1) := by decide +kernel
theorem dX8_init_895 : decode cX8_init 895 = .ok (.bipush 6, 2) := by decide +kernel
theorem dX8_init_897 : decode cX8_init 897 = .ok (.newarray .int, 2) := by decide +kernel
theorem dX8_init_899 : decode cX8_init 899 = .ok (.putfield 168, 3) := by decide +kernel
theorem dX8_init_902 : decode cX8_init 902 = .ok (.aload_n 0, 1) := by decide +kernel
theorem dX8_init_903 : decode cX8_init 903 = .ok (.bipush 60, 2) := by decide +kernel
theorem dX8_init_905 : decode cX8_init 905 = .ok (.newarray .int, 2) := by decide +kernel
theorem dX8_init_907 : decode cX8_init 907 = .ok (.putfield 171, 3) := by decide +kernel
theorem dX8_init_910 : decode cX8_init 910 = .ok (.aload_n 0, 1) := by decide +kernel
theorem dX8_init_911 : decode cX8_init 911 = .ok (.bipush 40, 2) := by decide +kernel
theorem dX8_init_913 : decode cX8_init 913 = .ok (.newarray .int, 2) := by decide +kernel
theorem dX8_init_915 : decode cX8_init 915 = .ok (.putfield 174, 3) := by decide +kernel
theorem dX8_init_918 : decode cX8_init 918 = .ok (.aload_n 0, 1) := by decide +kernel
theorem dX8_init_919 : decode cX8_init 919 = .ok (.bipush 40, 2) := by decide +kernel
theorem dX8_init_921 : decode cX8_init 921 = .ok (.newarray .int, 2) := by decide +kernel
theorem dX8_init_923 : decode cX8_init 923 = .ok (.putfield 177, 3) := by decide +kernel
theorem dX8_init_926 : decode cX8_init 926 = .ok (.return_, 1) := by decide +kernel
theorem dX8_isIn_0 : decode cX8_isIn 0 = .ok (.lload_n 0, 1) := by decide +kernel
theorem dX8_isIn_1 : decode cX8_isIn 1 = .ok (.lload_n 2, 1) := by decide +kernel
theorem dX8_isIn_2 : decode cX8_isIn 2 = .ok (.lcmp, 1) := by decide +kernel
theorem dX8_isIn_3 : decode cX8_isIn 3 = .ok (.ifCond .lt 14, 3) := by decide +kernel
theorem dX8_isIn_6 : decode cX8_isIn 6 = .ok (.lload_n 0, 1) := by decide +kernel
theorem dX8_isIn_7 : decode cX8_isIn 7 = .ok (.lload 4, 2) := by decide +kernel
theorem dX8_isIn_9 : decode cX8_isIn 9 = .ok (.lcmp, 1) := by decide +kernel
theorem dX8_isIn_10 : decode cX8_isIn 10 = .ok (.ifCond .gt 7, 3) := by decide +kernel
theorem dX8_isIn_13 : decode cX8_isIn 13 = .ok (.iconst 1, 1) := by decide +kernel
theorem dX8_isIn_14 : decode cX8_isIn 14 = .ok (.goto 4, 3) := by decide +kernel
theorem dX8_isIn_17 : decode cX8_isIn 17 = .ok (.iconst 0, 1) := by decide +kernel
theorem dX8_isIn_18 : decode cX8_isIn 18 = .ok (.ireturn, 1) := by decide +kernel
theorem dX8_feed_0 : decode cX8_feed 0 = .ok (.aload_n 0, 1) := by decide +kernel
theorem dX8_feed_1 : decode cX8_feed 1 = .ok (.getfield 180, 3) := by decide +kernel
theorem dX8_feed_4 : decode cX8_feed 4 = .ok (.bipush 20, 2) := by decide +kernel
theorem dX8_feed_6 : decode cX8_feed 6 = .ok (.iadd, 1) := by decide +kernel
theorem dX8_feed_7 : decode cX8_feed 7 = .ok (.sipush 700, 3) := by decide +kernel
theorem dX8_feed_10 : decode cX8_feed 10 = .ok (.if_icmp .le 5, 3) := by decide +kernel
theorem dX8_feed_13 : decode cX8_feed 13 = .ok (.iconst (-1), 1) := by decide +kernel
theorem dX8_feed_14 : decode cX8_feed 14 = .ok (.ireturn, 1) := by decide +kernel
theorem dX8_feed_15 : decode cX8_feed 15 = .ok (.iconst 0, 1) := by decide +kernel
theorem dX8_feed_16 : decode cX8_feed 16 = .ok (.istore 6, 2) := by decide +kernel
theorem dX8_feed_18 : decode cX8_feed 18 = .ok (.iload 6, 2) := by decide +kernel
theorem dX8_feed_20 : decode cX8_feed 20 = .ok (.bipush 20, 2) := by decide +kernel
theorem dX8_feed_22 : decode cX8_feed 22 = .ok (.if_icmp .ge 92, 3) := by decide +kernel
theorem dX8_feed_25 : decode cX8_feed 25 = .ok (.iload 6, 2) := by decide +kernel
theorem dX8_feed_27 : decode cX8_feed 27 = .ok (.iconst 4, 1) := by decide +kernel
theorem dX8_feed_28 : decode cX8_feed 28 = .ok (.if_icmp .ge 7, 3) := by decide +kernel
theorem dX8_feed_31 : decode cX8_feed 31 = .ok (.iload_n 1, 1) := by decide +kernel
theorem dX8_feed_32 : decode cX8_feed 32 = .ok (.goto 39, 3) := by decide +kernel
theorem dX8_feed_35 : decode cX8_feed 35 = .ok (.iload 6, 2) := by decide +kernel
theorem dX8_feed_37 : decode cX8_feed 37 = .ok (.bipush 8, 2) := by decide +kernel
theorem dX8_feed_39 : decode cX8_feed 39 = .ok (.if_icmp .ge 7, 3) := by decide +kernel
theorem dX8_feed_42 : decode cX8_feed 42 = .ok (.iload_n 2, 1) := by decide +kernel
theorem dX8_feed_43 : decode cX8_feed 43 = .ok (.goto 28, 3) := by decide +kernel
theorem dX8_feed_46 : decode cX8_feed 46 = .ok (.iload 6, 2) := by decide +kernel
theorem dX8_feed_48 : decode cX8_feed 48 = .ok (.bipush 12, 2) := by decide +kernel
theorem dX8_feed_50 : decode cX8_feed 50 = .ok (.if_icmp .ge 7, 3) := by decide +kernel
theorem dX8_feed_53 : decode cX8_feed 53 = .ok (.iload_n 3, 1) := by decide +kernel
theorem dX8_feed_54 : decode cX8_feed 54 = .ok (.goto 17, 3) := by decide +kernel
theorem dX8_feed_57 : decode cX8_feed 57 = .ok (.iload 6, 2) := by decide +kernel
theorem dX8_feed_59 : decode cX8_feed 59 = .ok (.bipush 16, 2) := by decide +kernel
theorem dX8_feed_61 : decode cX8_feed 61 = .ok (.if_icmp .ge 8, 3) := by decide +kernel
theorem dX8_feed_64 : decode cX8_feed 64 = .ok (.iload 4, 2) := by decide +kernel
theorem dX8_feed_66 : decode cX8_feed 66 = .ok (.goto 5, 3) := by decide +kernel
theorem dX8_feed_69 : decode cX8_feed 69 = .ok (.iload 5, 2) := by decide +kernel
theorem dX8_feed_71 : decode cX8_feed 71 = .ok (.istore 7, 2) := by decide +kernel
theorem dX8_feed_73 : decode cX8_feed 73 = .ok (.aload_n 0, 1) := by decide +kernel
theorem dX8_feed_74 : decode cX8_feed 74 = .ok (.getfield 7, 3) := by decide +kernel
theorem dX8_feed_77 : decode cX8_feed 77 = .ok (.aload_n 0, 1) := by decide +kernel
theorem dX8_feed_78 : decode cX8_feed 78 = .ok (.getfield 180, 3) := by decide +kernel
theorem dX8_feed_81 : decode cX8_feed 81 = .ok (.iload 7, 2) := by decide +kernel
theorem dX8_feed_83 : decode cX8_feed 83 = .ok (.bipush 8, 2) := by decide +kernel
theorem dX8_feed_85 : decode cX8_feed 85 = .ok (.iconst 3, 1) := by decide +kernel
theorem dX8_feed_86 : decode cX8_feed 86 = .ok (.iload 6, 2) := by decide +kernel
theorem dX8_feed_88 : decode cX8_feed 88 = .ok (.iconst 4, 1) := by decide +kernel
theorem dX8_feed_89 : decode cX8_feed 89 = .ok (.irem, 1) := by decide +kernel
theorem dX8_feed_90 : decode cX8_feed 90 = .ok (.isub, 1) := by decide +kernel
theorem dX8_feed_91 : decode cX8_feed 91 = .ok (.imul, 1) := by decide +kernel
theorem dX8_feed_92 : decode cX8_feed 92 = .ok (.ishr, 1) := by decide +kernel
theorem dX8_feed_93 : decode cX8_feed 93 = .ok (.sipush 255, 3) := by decide +kernel
theorem dX8_feed_96 : decode cX8_feed 96 = .ok (.iand, 1) := by decide +kernel
theorem dX8_feed_97 : decode cX8_feed 97 = .ok (.iastore, 1) := by decide +kernel
theorem dX8_feed_98 : decode cX8_feed 98 = .ok (.aload_n 0, 1) := by decide +kernel
theorem dX8_feed_99 : decode cX8_feed 99 = .ok (.dup, 1) := by decide +kernel
theorem dX8_feed_100 : decode cX8_feed 100 = .ok (.getfield 180, 3) := by decide +kernel
theorem dX8_feed_103 : decode cX8_feed 103 = .ok (.iconst 1, 1) := by decide +kernel
theorem dX8_feed_104 : decode cX8_feed 104 = .ok (.iadd, 1) := by decide +kernel
theorem dX8_feed_105 : decode cX8_feed 105 = .ok (.putfield 180, 3) := by decide +kernel
theorem dX8_feed_108 : decode cX8_feed 108 = .ok (.iinc 6 1, 3) := by decide +kernel
theorem dX8_feed_111 : decode cX8_feed 111 = .ok (.goto (-93), 3) := by decide +kernel
theorem dX8_feed_114 : decode cX8_feed 114 = .ok (.aload_n 0, 1) := by decide +kernel
theorem dX8_feed_115 : decode cX8_feed 115 = .ok (.getfield 180, 3) := by decide +kernel
theorem dX8_feed_118 : decode cX8_feed 118 = .ok (.ireturn, 1) := by decide +kernel
theorem dX8_end_0 : decode cX8_end 0 = .ok (.iload_n 1, 1) := by decide +kernel
theorem dX8_end_1 : decode cX8_end 1 = .ok (.ifCond .lt 11, 3) := by decide +kernel
theorem dX8_end_4 : decode cX8_end 4 = .ok (.iload_n 1, 1) := by decide +kernel
theorem dX8_end_5 : decode cX8_end 5 = .ok (.aload_n 0, 1) := by decide +kernel
theorem dX8_end_6 : decode cX8_end 6 = .ok (.getfield 180, 3) := by decide +kernel
theorem dX8_end_9 : decode cX8_end 9 = .ok (.if_icmp .le 5, 3) := by decide +kernel
theorem dX8_end_12 : decode cX8_end 12 = .ok (.iconst 0, 1) := by decide +kernel
theorem dX8_end_13 : decode cX8_end 13 = .ok (.ireturn, 1) := by decide +kernel
theorem dX8_end_14 : decode cX8_end 14 = .ok (.aload_n 0, 1) := by decide +kernel
theorem dX8_end_15 : decode cX8_end 15 = .ok (.iload_n 1, 1) := by decide +kernel
theorem dX8_end_16 : decode cX8_end 16 = .ok (.putfield 180, 3) := by decide +kernel
theorem dX8_end_19 : decode cX8_end 19 = .ok (.iconst 1, 1) := by decide +kernel
theorem dX8_end_20 : decode cX8_end 20 = .ok (.ireturn, 1) := by decide +kernel
theorem dX8_fail_0 : decode cX8_fail 0 = .ok (.aload_n 0, 1) := by decide +kernel
theorem dX8_fail_1 : decode cX8_fail 1 = .ok (.getfield 183, 3) := by decide +kernel
theorem dX8_fail_4 : decode cX8_fail 4 = .ok (.ifCond .eq 4, 3) := by decide +kernel
theorem dX8_fail_7 : decode cX8_fail 7 = .ok (.return_, 1) := by decide +kernel
theorem dX8_fail_8 : decode cX8_fail 8 = .ok (.aload_n 0, 1) := by decide +kernel
theorem dX8_fail_9 : decode cX8_fail 9 = .ok (.iload_n 1, 1) := by decide +kernel
theorem dX8_fail_10 : decode cX8_fail 10 = .ok (.putfield 183, 3) := by decide +kernel
theorem dX8_fail_13 : decode cX8_fail 13 = .ok (.aload_n 0, 1) := by decide +kernel
theorem dX8_fail_14 : decode cX8_fail 14 = .ok (.iload_n 2, 1) := by decide +kernel
theorem dX8_fail_15 : decode cX8_fail 15 = .ok (.putfield 186, 3) := by decide +kernel
theorem dX8_fail_18 : decode cX8_fail 18 = .ok (.return_, 1) := by decide +kernel
theorem dX8_isLetter_0 : decode cX8_isLetter 0 = .ok (.iload_n 0, 1) := by decide +kernel
theorem dX8_isLetter_1 : decode cX8_isLetter 1 = .ok (.bipush 97, 2) := by decide +kernel
theorem dX8_isLetter_3 : decode cX8_isLetter 3 = .ok (.if_icmp .lt 13, 3) := by decide +kernel
theorem dX8_isLetter_6 : decode cX8_isLetter 6 = .ok (.iload_n 0, 1) := by decide +kernel
theorem dX8_isLetter_7 : decode cX8_isLetter 7 = .ok (.bipush 122, 2) := by decide +kernel
theorem dX8_isLetter_9 : decode cX8_isLetter 9 = .ok (.if_icmp .gt 7, 3) := by decide +kernel
theorem dX8_isLetter_12 : decode cX8_isLetter 12 = .ok (.iconst 1, 1) := by decide +kernel
theorem dX8_isLetter_13 : decode cX8_isLetter 13 = .ok (.goto 4, 3) := by decide +kernel
theorem dX8_isLetter_16 : decode cX8_isLetter 16 = .ok (.iconst 0, 1) := by decide +kernel
theorem dX8_isLetter_17 : decode cX8_isLetter 17 = .ok (.ireturn, 1) := by decide +kernel
theorem dX8_isDigit_0 : decode cX8_isDigit 0 = .ok (.iload_n 0, 1) := by decide +kernel
theorem dX8_isDigit_1 : decode cX8_isDigit 1 = .ok (.bipush 48, 2) := by decide +kernel
theorem dX8_isDigit_3 : decode cX8_isDigit 3 = .ok (.if_icmp .lt 13, 3) := by decide +kernel
theorem dX8_isDigit_6 : decode cX8_isDigit 6 = .ok (.iload_n 0, 1) := by decide +kernel
theorem dX8_isDigit_7 : decode cX8_isDigit 7 = .ok (.bipush 57, 2) := by decide +kernel
theorem dX8_isDigit_9 : decode cX8_isDigit 9 = .ok (.if_icmp .gt 7, 3) := by decide +kernel
theorem dX8_isDigit_12 : decode cX8_isDigit 12 = .ok (.iconst 1, 1) := by decide +kernel
theorem dX8_isDigit_13 : decode cX8_isDigit 13 = .ok (.goto 4, 3) := by decide +kernel
theorem dX8_isDigit_16 : decode cX8_isDigit 16 = .ok (.iconst 0, 1) := by decide +kernel
theorem dX8_isDigit_17 : decode cX8_isDigit 17 = .ok (.ireturn, 1) := by decide +kernel
theorem dX8_look_0 : decode cX8_look 0 = .ok (.aload_n 0, 1) := by decide +kernel
theorem dX8_look_1 : decode cX8_look 1 = .ok (.getfield 189, 3) := by decide +kernel
theorem dX8_look_4 : decode cX8_look 4 = .ok (.aload_n 0, 1) := by decide +kernel
theorem dX8_look_5 : decode cX8_look 5 = .ok (.getfield 192, 3) := by decide +kernel
theorem dX8_look_8 : decode cX8_look 8 = .ok (.if_icmp .ge 44, 3) := by decide +kernel
theorem dX8_look_11 : decode cX8_look 11 = .ok (.aload_n 0, 1) := by decide +kernel
theorem dX8_look_12 : decode cX8_look 12 = .ok (.getfield 7, 3) := by decide +kernel
theorem dX8_look_15 : decode cX8_look 15 = .ok (.aload_n 0, 1) := by decide +kernel
theorem dX8_look_16 : decode cX8_look 16 = .ok (.getfield 189, 3) := by decide +kernel
theorem dX8_look_19 : decode cX8_look 19 = .ok (.iaload, 1) := by decide +kernel
theorem dX8_look_20 : decode cX8_look 20 = .ok (.bipush 10, 2) := by decide +kernel
theorem dX8_look_22 : decode cX8_look 22 = .ok (.if_icmp .eq 17, 3) := by decide +kernel
theorem dX8_look_25 : decode cX8_look 25 = .ok (.aload_n 0, 1) := by decide +kernel
theorem dX8_look_26 : decode cX8_look 26 = .ok (.getfield 7, 3) := by decide +kernel
theorem dX8_look_29 : decode cX8_look 29 = .ok (.aload_n 0, 1) := by decide +kernel
theorem dX8_look_30 : decode cX8_look 30 = .ok (.getfield 189, 3) := by decide +kernel
theorem dX8_look_33 : decode cX8_look 33 = .ok (.iaload, 1) := by decide +kernel
theorem dX8_look_34 : decode cX8_look 34 = .ok (.bipush 32, 2) := by decide +kernel
theorem dX8_look_36 : decode cX8_look 36 = .ok (.if_icmp .ne 16, 3) := by decide +kernel
theorem dX8_look_39 : decode cX8_look 39 = .ok (.aload_n 0, 1) := by decide +kernel
theorem dX8_look_40 : decode cX8_look 40 = .ok (.dup, 1) := by decide +kernel
theorem dX8_look_41 : decode cX8_look 41 = .ok (.getfield 189, 3) := by decide +kernel
theorem dX8_look_44 : decode cX8_look 44 = .ok (.iconst 1, 1) := by decide +kernel
theorem dX8_look_45 : decode cX8_look 45 = .ok (.iadd, 1) := by decide +kernel
theorem dX8_look_46 : decode cX8_look 46 = .ok (.putfield 189, 3) := by decide +kernel
theorem dX8_look_49 : decode cX8_look 49 = .ok (.goto (-49), 3) := by decide +kernel
theorem dX8_look_52 : decode cX8_look 52 = .ok (.aload_n 0, 1) := by decide +kernel
theorem dX8_look_53 : decode cX8_look 53 = .ok (.getfield 189, 3) := by decide +kernel
theorem dX8_look_56 : decode cX8_look 56 = .ok (.aload_n 0, 1) := by decide +kernel
theorem dX8_look_57 : decode cX8_look 57 = .ok (.getfield 192, 3) := by decide +kernel
theorem dX8_look_60 : decode cX8_look 60 = .ok (.if_icmp .ge 15, 3) := by decide +kernel
theorem dX8_look_63 : decode cX8_look 63 = .ok (.aload_n 0, 1) := by decide +kernel
theorem dX8_look_64 : decode cX8_look 64 = .ok (.getfield 7, 3) := by decide +kernel
theorem dX8_look_67 : decode cX8_look 67 = .ok (.aload_n 0, 1) := by decide +kernel
theorem dX8_look_68 : decode cX8_look 68 = .ok (.getfield 189, 3) := by decide +kernel
theorem dX8_look_71 : decode cX8_look 71 = .ok (.iaload, 1) := by decide +kernel
theorem dX8_look_72 : decode cX8_look 72 = .ok (.goto 4, 3) := by decide +kernel
theorem dX8_look_75 : decode cX8_look 75 = .ok (.iconst (-1), 1) := by decide +kernel
theorem dX8_look_76 : decode cX8_look 76 = .ok (.ireturn, 1) := by decide +kernel
theorem dX8_isHere_0 : decode cX8_isHere 0 = .ok (.aload_n 0, 1) := by decide +kernel
theorem dX8_isHere_1 : decode cX8_isHere 1 = .ok (.getfield 183, 3) := by decide +kernel
theorem dX8_isHere_4 : decode cX8_isHere 4 = .ok (.ifCond .ne 24, 3) := by decide +kernel
theorem dX8_isHere_7 : decode cX8_isHere 7 = .ok (.aload_n 0, 1) := by decide +kernel
theorem dX8_isHere_8 : decode cX8_isHere 8 = .ok (.invokevirtual 195, 3) := by decide +kernel
theorem dX8_isHere_11 : decode cX8_isHere 11 = .ok (.invokestatic 199, 3) := by decide +kernel
theorem dX8_isHere_14 : decode cX8_isHere 14 = .ok (.ifCond .eq 14, 3) := by decide +kernel
theorem dX8_isHere_17 : decode cX8_isHere 17 = .ok (.aload_n 0, 1) := by decide +kernel
theorem dX8_isHere_18 : decode cX8_isHere 18 = .ok (.getfield 189, 3) := by decide +kernel
theorem dX8_isHere_21 : decode cX8_isHere 21 = .ok (.aload_n 0, 1) := by decide +kernel
theorem dX8_isHere_22 : decode cX8_isHere 22 = .ok (.getfield 203, 3) := by decide +kernel
theorem dX8_isHere_25 : decode cX8_isHere 25 = .ok (.if_icmp .ne 5, 3) := by decide +kernel
theorem dX8_isHere_28 : decode cX8_isHere 28 = .ok (.iconst 0, 1) := by decide +kernel
theorem dX8_isHere_29 : decode cX8_isHere 29 = .ok (.ireturn, 1) := by decide +kernel
theorem dX8_isHere_30 : decode cX8_isHere 30 = .ok (.aload_n 0, 1) := by decide +kernel
theorem dX8_isHere_31 : decode cX8_isHere 31 = .ok (.getfield 189, 3) := by decide +kernel
theorem dX8_isHere_34 : decode cX8_isHere 34 = .ok (.istore_n 2, 1) := by decide +kernel
theorem dX8_isHere_35 : decode cX8_isHere 35 = .ok (.iload_n 2, 1) := by decide +kernel
theorem dX8_isHere_36 : decode cX8_isHere 36 = .ok (.aload_n 0, 1) := by decide +kernel
theorem dX8_isHere_37 : decode cX8_isHere 37 = .ok (.getfield 192, 3) := by decide +kernel
theorem dX8_isHere_40 : decode cX8_isHere 40 = .ok (.if_icmp .ge 21, 3) := by decide +kernel
theorem dX8_isHere_43 : decode cX8_isHere 43 = .ok (.aload_n 0, 1) := by decide +kernel
theorem dX8_isHere_44 : decode cX8_isHere 44 = .ok (.getfield 7, 3) := by decide +kernel
theorem dX8_isHere_47 : decode cX8_isHere 47 = .ok (.iload_n 2, 1) := by decide +kernel
theorem dX8_isHere_48 : decode cX8_isHere 48 = .ok (.iaload, 1) := by decide +kernel
theorem dX8_isHere_49 : decode cX8_isHere 49 = .ok (.invokestatic 199, 3) := by decide +kernel
theorem dX8_isHere_52 : decode cX8_isHere 52 = .ok (.ifCond .eq 9, 3) := by decide +kernel
theorem dX8_isHere_55 : decode cX8_isHere 55 = .ok (.iinc 2 1, 3) := by decide +kernel
theorem dX8_isHere_58 : decode cX8_isHere 58 = .ok (.goto (-23), 3) := by decide +kernel
theorem dX8_isHere_61 : decode cX8_isHere 61 = .ok (.iload_n 2, 1) := by decide +kernel
theorem dX8_isHere_62 : decode cX8_isHere 62 = .ok (.aload_n 0, 1) := by decide +kernel
theorem dX8_isHere_63 : decode cX8_isHere 63 = .ok (.getfield 189, 3) := by decide +kernel
theorem dX8_isHere_66 : decode cX8_isHere 66 = .ok (.isub, 1) := by decide +kernel
theorem dX8_isHere_67 : decode cX8_isHere 67 = .ok (.aload_n 1, 1) := by decide +kernel
theorem dX8_isHere_68 : decode cX8_isHere 68 = .ok (.arraylength, 1) := by decide +kernel
theorem dX8_isHere_69 : decode cX8_isHere 69 = .ok (.if_icmp .eq 5, 3) := by decide +kernel
theorem dX8_isHere_72 : decode cX8_isHere 72 = .ok (.iconst 0, 1) := by decide +kernel
theorem dX8_isHere_73 : decode cX8_isHere 73 = .ok (.ireturn, 1) := by decide +kernel
theorem dX8_isHere_74 : decode cX8_isHere 74 = .ok (.iconst 0, 1) := by decide +kernel
theorem dX8_isHere_75 : decode cX8_isHere 75 = .ok (.istore_n 3, 1) := by decide +kernel
theorem dX8_isHere_76 : decode cX8_isHere 76 = .ok (.iload_n 3, 1) := by decide +kernel
theorem dX8_isHere_77 : decode cX8_isHere 77 = .ok (.aload_n 1, 1) := by decide +kernel
theorem dX8_isHere_78 : decode cX8_isHere 78 = .ok (.arraylength, 1) := by decide +kernel
theorem dX8_isHere_79 : decode cX8_isHere 79 = .ok (.if_icmp .ge 28, 3) := by decide +kernel
theorem dX8_isHere_82 : decode cX8_isHere 82 = .ok (.aload_n 0, 1) := by decide +kernel
theorem dX8_isHere_83 : decode cX8_isHere 83 = .ok (.getfield 7, 3) := by decide +kernel
theorem dX8_isHere_86 : decode cX8_isHere 86 = .ok (.aload_n 0, 1) := by decide +kernel
theorem dX8_isHere_87 : decode cX8_isHere 87 = .ok (.getfield 189, 3) := by decide +kernel
theorem dX8_isHere_90 : decode cX8_isHere 90 = .ok (.iload_n 3, 1) := by decide +kernel
theorem dX8_isHere_91 : decode cX8_isHere 91 = .ok (.iadd, 1) := by decide +kernel
theorem dX8_isHere_92 : decode cX8_isHere 92 = .ok (.iaload, 1) := by decide +kernel
theorem dX8_isHere_93 : decode cX8_isHere 93 = .ok (.aload_n 1, 1) := by decide +kernel
theorem dX8_isHere_94 : decode cX8_isHere 94 = .ok (.iload_n 3, 1) := by decide +kernel
theorem dX8_isHere_95 : decode cX8_isHere 95 = .ok (.caload, 1) := by decide +kernel
theorem dX8_isHere_96 : decode cX8_isHere 96 = .ok (.if_icmp .eq 5, 3) := by decide +kernel
theorem dX8_isHere_99 : decode cX8_isHere 99 = .ok (.iconst 0, 1) := by decide +kernel
theorem dX8_isHere_100 : decode cX8_isHere 100 = .ok (.ireturn, 1) := by decide +kernel
theorem dX8_isHere_101 : decode cX8_isHere 101 = .ok (.iinc 3 1, 3) := by decide +kernel
theorem dX8_isHere_104 : decode cX8_isHere 104 = .ok (.goto (-28), 3) := by decide +kernel
theorem dX8_isHere_107 : decode cX8_isHere 107 = .ok (.iconst 1, 1) := by decide +kernel
theorem dX8_isHere_108 : decode cX8_isHere 108 = .ok (.ireturn, 1) := by decide +kernel
theorem dX8_takes_0 : decode cX8_takes 0 = .ok (.aload_n 0, 1) := by decide +kernel
theorem dX8_takes_1 : decode cX8_takes 1 = .ok (.aload_n 1, 1) := by decide +kernel
theorem dX8_takes_2 : decode cX8_takes 2 = .ok (.invokevirtual 206, 3) := by decide +kernel
theorem dX8_takes_5 : decode cX8_takes 5 = .ok (.ifCond .ne 5, 3) := by decide +kernel
theorem dX8_takes_8 : decode cX8_takes 8 = .ok (.iconst 0, 1) := by decide +kernel
theorem dX8_takes_9 : decode cX8_takes 9 = .ok (.ireturn, 1) := by decide +kernel
theorem dX8_takes_10 : decode cX8_takes 10 = .ok (.aload_n 0, 1) := by decide +kernel
theorem dX8_takes_11 : decode cX8_takes 11 = .ok (.dup, 1) := by decide +kernel
theorem dX8_takes_12 : decode cX8_takes 12 = .ok (.getfield 189, 3) := by decide +kernel
theorem dX8_takes_15 : decode cX8_takes 15 = .ok (.aload_n 1, 1) := by decide +kernel
theorem dX8_takes_16 : decode cX8_takes 16 = .ok (.arraylength, 1) := by decide +kernel
theorem dX8_takes_17 : decode cX8_takes 17 = .ok (.iadd, 1) := by decide +kernel
theorem dX8_takes_18 : decode cX8_takes 18 = .ok (.putfield 189, 3) := by decide +kernel
theorem dX8_takes_21 : decode cX8_takes 21 = .ok (.aload_n 0, 1) := by decide +kernel
theorem dX8_takes_22 : decode cX8_takes 22 = .ok (.aload_n 0, 1) := by decide +kernel
theorem dX8_takes_23 : decode cX8_takes 23 = .ok (.getfield 189, 3) := by decide +kernel
theorem dX8_takes_26 : decode cX8_takes 26 = .ok (.putfield 203, 3) := by decide +kernel
theorem dX8_takes_29 : decode cX8_takes 29 = .ok (.iconst 1, 1) := by decide +kernel
theorem dX8_takes_30 : decode cX8_takes 30 = .ok (.ireturn, 1) := by decide +kernel
theorem dX8_asks_0 : decode cX8_asks 0 = .ok (.aload_n 0, 1) := by decide +kernel
theorem dX8_asks_1 : decode cX8_asks 1 = .ok (.getfield 183, 3) := by decide +kernel
theorem dX8_asks_4 : decode cX8_asks 4 = .ok (.ifCond .ne 20, 3) := by decide +kernel
theorem dX8_asks_7 : decode cX8_asks 7 = .ok (.aload_n 0, 1) := by decide +kernel
theorem dX8_asks_8 : decode cX8_asks 8 = .ok (.aload_n 1, 1) := by decide +kernel
theorem dX8_asks_9 : decode cX8_asks 9 = .ok (.invokevirtual 210, 3) := by decide +kernel
theorem dX8_asks_12 : decode cX8_asks 12 = .ok (.ifCond .ne 12, 3) := by decide +kernel
theorem dX8_asks_15 : decode cX8_asks 15 = .ok (.aload_n 0, 1) := by decide +kernel
theorem dX8_asks_16 : decode cX8_asks 16 = .ok (.iconst 1, 1) := by decide +kernel
theorem dX8_asks_17 : decode cX8_asks 17 = .ok (.aload_n 0, 1) := by decide +kernel
theorem dX8_asks_18 : decode cX8_asks 18 = .ok (.getfield 189, 3) := by decide +kernel
theorem dX8_asks_21 : decode cX8_asks 21 = .ok (.invokevirtual 213, 3) := by decide +kernel
theorem dX8_asks_24 : decode cX8_asks 24 = .ok (.return_, 1) := by decide +kernel
theorem dX8_takesSign_0 : decode cX8_takesSign 0 = .ok (.aload_n 0, 1) := by decide +kernel
theorem dX8_takesSign_1 : decode cX8_takesSign 1 = .ok (.getfield 183, 3) := by decide +kernel
theorem dX8_takesSign_4 : decode cX8_takesSign 4 = .ok (.ifCond .ne 11, 3) := by decide +kernel
theorem dX8_takesSign_7 : decode cX8_takesSign 7 = .ok (.aload_n 0, 1) := by decide +kernel
theorem dX8_takesSign_8 : decode cX8_takesSign 8 = .ok (.invokevirtual 195, 3) := by decide +kernel
theorem dX8_takesSign_11 : decode cX8_takesSign 11 = .ok (.iload_n 1, 1) := by decide +kernel
theorem dX8_takesSign_12 : decode cX8_takesSign 12 = .ok (.if_icmp .eq 5, 3) := by decide +kernel
theorem dX8_takesSign_15 : decode cX8_takesSign 15 = .ok (.iconst 0, 1) := by decide +kernel
theorem dX8_takesSign_16 : decode cX8_takesSign 16 = .ok (.ireturn, 1) := by decide +kernel
theorem dX8_takesSign_17 : decode cX8_takesSign 17 = .ok (.aload_n 0, 1) := by decide +kernel
theorem dX8_takesSign_18 : decode cX8_takesSign 18 = .ok (.dup, 1) := by decide +kernel
theorem dX8_takesSign_19 : decode cX8_takesSign 19 = .ok (.getfield 189, 3) := by decide +kernel
theorem dX8_takesSign_22 : decode cX8_takesSign 22 = .ok (.iconst 1, 1) := by decide +kernel
theorem dX8_takesSign_23 : decode cX8_takesSign 23 = .ok (.iadd, 1) := by decide +kernel
theorem dX8_takesSign_24 : decode cX8_takesSign 24 = .ok (.putfield 189, 3) := by decide +kernel
theorem dX8_takesSign_27 : decode cX8_takesSign 27 = .ok (.iconst 1, 1) := by decide +kernel
theorem dX8_takesSign_28 : decode cX8_takesSign 28 = .ok (.ireturn, 1) := by decide +kernel
theorem dX8_asksSign_0 : decode cX8_asksSign 0 = .ok (.aload_n 0, 1) := by decide +kernel
theorem dX8_asksSign_1 : decode cX8_asksSign 1 = .ok (.getfield 183, 3) := by decide +kernel
theorem dX8_asksSign_4 : decode cX8_asksSign 4 = .ok (.ifCond .ne 20, 3) := by decide +kernel
theorem dX8_asksSign_7 : decode cX8_asksSign 7 = .ok (.aload_n 0, 1) := by decide +kernel
theorem dX8_asksSign_8 : decode cX8_asksSign 8 = .ok (.iload_n 1, 1) := by decide +kernel
theorem dX8_asksSign_9 : decode cX8_asksSign 9 = .ok (.invokevirtual 217, 3) := by decide +kernel
theorem dX8_asksSign_12 : decode cX8_asksSign 12 = .ok (.ifCond .ne 12, 3) := by decide +kernel
theorem dX8_asksSign_15 : decode cX8_asksSign 15 = .ok (.aload_n 0, 1) := by decide +kernel
theorem dX8_asksSign_16 : decode cX8_asksSign 16 = .ok (.iconst 1, 1) := by decide +kernel
theorem dX8_asksSign_17 : decode cX8_asksSign 17 = .ok (.aload_n 0, 1) := by decide +kernel
theorem dX8_asksSign_18 : decode cX8_asksSign 18 = .ok (.getfield 189, 3) := by decide +kernel
theorem dX8_asksSign_21 : decode cX8_asksSign 21 = .ok (.invokevirtual 213, 3) := by decide +kernel
theorem dX8_asksSign_24 : decode cX8_asksSign 24 = .ok (.return_, 1) := by decide +kernel
theorem dX8_number_0 : decode cX8_number 0 = .ok (.aload_n 0, 1) := by decide +kernel
theorem dX8_number_1 : decode cX8_number 1 = .ok (.getfield 183, 3) := by decide +kernel
theorem dX8_number_4 : decode cX8_number 4 = .ok (.ifCond .eq 5, 3) := by decide +kernel
theorem dX8_number_7 : decode cX8_number 7 = .ok (.iconst 0, 1) := by decide +kernel
theorem dX8_number_8 : decode cX8_number 8 = .ok (.ireturn, 1) := by decide +kernel
theorem dX8_number_9 : decode cX8_number 9 = .ok (.aload_n 0, 1) := by decide +kernel
theorem dX8_number_10 : decode cX8_number 10 = .ok (.invokevirtual 195, 3) := by decide +kernel
theorem dX8_number_13 : decode cX8_number 13 = .ok (.invokestatic 220, 3) := by decide +kernel
theorem dX8_number_16 : decode cX8_number 16 = .ok (.ifCond .eq 14, 3) := by decide +kernel
theorem dX8_number_19 : decode cX8_number 19 = .ok (.aload_n 0, 1) := by decide +kernel
theorem dX8_number_20 : decode cX8_number 20 = .ok (.getfield 189, 3) := by decide +kernel
theorem dX8_number_23 : decode cX8_number 23 = .ok (.aload_n 0, 1) := by decide +kernel
theorem dX8_number_24 : decode cX8_number 24 = .ok (.getfield 203, 3) := by decide +kernel
theorem dX8_number_27 : decode cX8_number 27 = .ok (.if_icmp .ne 14, 3) := by decide +kernel
theorem dX8_number_30 : decode cX8_number 30 = .ok (.aload_n 0, 1) := by decide +kernel
theorem dX8_number_31 : decode cX8_number 31 = .ok (.iconst 1, 1) := by decide +kernel
theorem dX8_number_32 : decode cX8_number 32 = .ok (.aload_n 0, 1) := by decide +kernel
theorem dX8_number_33 : decode cX8_number 33 = .ok (.getfield 189, 3) := by decide +kernel
theorem dX8_number_36 : decode cX8_number 36 = .ok (.invokevirtual 213, 3) := by decide +kernel
theorem dX8_number_39 : decode cX8_number 39 = .ok (.iconst 0, 1) := by decide +kernel
theorem dX8_number_40 : decode cX8_number 40 = .ok (.ireturn, 1) := by decide +kernel
theorem dX8_number_41 : decode cX8_number 41 = .ok (.aload_n 0, 1) := by decide +kernel
theorem dX8_number_42 : decode cX8_number 42 = .ok (.getfield 189, 3) := by decide +kernel
theorem dX8_number_45 : decode cX8_number 45 = .ok (.istore_n 3, 1) := by decide +kernel
theorem dX8_number_46 : decode cX8_number 46 = .ok (.iconst 0, 1) := by decide +kernel
theorem dX8_number_47 : decode cX8_number 47 = .ok (.istore 4, 2) := by decide +kernel
theorem dX8_number_49 : decode cX8_number 49 = .ok (.aload_n 0, 1) := by decide +kernel
theorem dX8_number_50 : decode cX8_number 50 = .ok (.getfield 189, 3) := by decide +kernel
theorem dX8_number_53 : decode cX8_number 53 = .ok (.aload_n 0, 1) := by decide +kernel
theorem dX8_number_54 : decode cX8_number 54 = .ok (.getfield 192, 3) := by decide +kernel
theorem dX8_number_57 : decode cX8_number 57 = .ok (.if_icmp .ge 72, 3) := by decide +kernel
theorem dX8_number_60 : decode cX8_number 60 = .ok (.aload_n 0, 1) := by decide +kernel
theorem dX8_number_61 : decode cX8_number 61 = .ok (.getfield 7, 3) := by decide +kernel
theorem dX8_number_64 : decode cX8_number 64 = .ok (.aload_n 0, 1) := by decide +kernel
theorem dX8_number_65 : decode cX8_number 65 = .ok (.getfield 189, 3) := by decide +kernel
theorem dX8_number_68 : decode cX8_number 68 = .ok (.iaload, 1) := by decide +kernel
theorem dX8_number_69 : decode cX8_number 69 = .ok (.invokestatic 220, 3) := by decide +kernel
theorem dX8_number_72 : decode cX8_number 72 = .ok (.ifCond .eq 57, 3) := by decide +kernel
theorem dX8_number_75 : decode cX8_number 75 = .ok (.aload_n 0, 1) := by decide +kernel
theorem dX8_number_76 : decode cX8_number 76 = .ok (.getfield 189, 3) := by decide +kernel
theorem dX8_number_79 : decode cX8_number 79 = .ok (.iload_n 3, 1) := by decide +kernel
theorem dX8_number_80 : decode cX8_number 80 = .ok (.isub, 1) := by decide +kernel
theorem dX8_number_81 : decode cX8_number 81 = .ok (.iconst 4, 1) := by decide +kernel
theorem dX8_number_82 : decode cX8_number 82 = .ok (.if_icmp .ne 14, 3) := by decide +kernel
theorem dX8_number_85 : decode cX8_number 85 = .ok (.aload_n 0, 1) := by decide +kernel
theorem dX8_number_86 : decode cX8_number 86 = .ok (.iconst 1, 1) := by decide +kernel
theorem dX8_number_87 : decode cX8_number 87 = .ok (.aload_n 0, 1) := by decide +kernel
theorem dX8_number_88 : decode cX8_number 88 = .ok (.getfield 189, 3) := by decide +kernel
theorem dX8_number_91 : decode cX8_number 91 = .ok (.invokevirtual 213, 3) := by decide +kernel
theorem dX8_number_94 : decode cX8_number 94 = .ok (.iconst 0, 1) := by decide +kernel
theorem dX8_number_95 : decode cX8_number 95 = .ok (.ireturn, 1) := by decide +kernel
theorem dX8_number_96 : decode cX8_number 96 = .ok (.bipush 10, 2) := by decide +kernel
theorem dX8_number_98 : decode cX8_number 98 = .ok (.iload 4, 2) := by decide +kernel
theorem dX8_number_100 : decode cX8_number 100 = .ok (.imul, 1) := by decide +kernel
theorem dX8_number_101 : decode cX8_number 101 = .ok (.aload_n 0, 1) := by decide +kernel
theorem dX8_number_102 : decode cX8_number 102 = .ok (.getfield 7, 3) := by decide +kernel
theorem dX8_number_105 : decode cX8_number 105 = .ok (.aload_n 0, 1) := by decide +kernel
theorem dX8_number_106 : decode cX8_number 106 = .ok (.getfield 189, 3) := by decide +kernel
theorem dX8_number_109 : decode cX8_number 109 = .ok (.iaload, 1) := by decide +kernel
theorem dX8_number_110 : decode cX8_number 110 = .ok (.iadd, 1) := by decide +kernel
theorem dX8_number_111 : decode cX8_number 111 = .ok (.bipush 48, 2) := by decide +kernel
theorem dX8_number_113 : decode cX8_number 113 = .ok (.isub, 1) := by decide +kernel
theorem dX8_number_114 : decode cX8_number 114 = .ok (.istore 4, 2) := by decide +kernel
theorem dX8_number_116 : decode cX8_number 116 = .ok (.aload_n 0, 1) := by decide +kernel
theorem dX8_number_117 : decode cX8_number 117 = .ok (.dup, 1) := by decide +kernel
theorem dX8_number_118 : decode cX8_number 118 = .ok (.getfield 189, 3) := by decide +kernel
theorem dX8_number_121 : decode cX8_number 121 = .ok (.iconst 1, 1) := by decide +kernel
theorem dX8_number_122 : decode cX8_number 122 = .ok (.iadd, 1) := by decide +kernel
theorem dX8_number_123 : decode cX8_number 123 = .ok (.putfield 189, 3) := by decide +kernel
theorem dX8_number_126 : decode cX8_number 126 = .ok (.goto (-77), 3) := by decide +kernel
theorem dX8_number_129 : decode cX8_number 129 = .ok (.aload_n 0, 1) := by decide +kernel
theorem dX8_number_130 : decode cX8_number 130 = .ok (.aload_n 0, 1) := by decide +kernel
theorem dX8_number_131 : decode cX8_number 131 = .ok (.getfield 189, 3) := by decide +kernel
theorem dX8_number_134 : decode cX8_number 134 = .ok (.putfield 203, 3) := by decide +kernel
theorem dX8_number_137 : decode cX8_number 137 = .ok (.iload 4, 2) := by decide +kernel
theorem dX8_number_139 : decode cX8_number 139 = .ok (.i2l, 1) := by decide +kernel
theorem dX8_number_140 : decode cX8_number 140 = .ok (.iload_n 1, 1) := by decide +kernel
theorem dX8_number_141 : decode cX8_number 141 = .ok (.i2l, 1) := by decide +kernel
theorem dX8_number_142 : decode cX8_number 142 = .ok (.iload_n 2, 1) := by decide +kernel
theorem dX8_number_143 : decode cX8_number 143 = .ok (.i2l, 1) := by decide +kernel
theorem dX8_number_144 : decode cX8_number 144 = .ok (.invokestatic 223, 3) := by decide +kernel
theorem dX8_number_147 : decode cX8_number 147 = .ok (.ifCond .ne 9, 3) := by decide +kernel
theorem dX8_number_150 : decode cX8_number 150 = .ok (.aload_n 0, 1) := by decide +kernel
theorem dX8_number_151 : decode cX8_number 151 = .ok (.iconst 2, 1) := by decide +kernel
theorem dX8_number_152 : decode cX8_number 152 = .ok (.iload_n 3, 1) := by decide +kernel
theorem dX8_number_153 : decode cX8_number 153 = .ok (.invokevirtual 213, 3) := by decide +kernel
theorem dX8_number_156 : decode cX8_number 156 = .ok (.iload 4, 2) := by decide +kernel
theorem dX8_number_158 : decode cX8_number 158 = .ok (.ireturn, 1) := by decide +kernel
theorem dX8_code_0 : decode cX8_code 0 = .ok (.aload_n 0, 1) := by decide +kernel
theorem dX8_code_1 : decode cX8_code 1 = .ok (.getfield 121, 3) := by decide +kernel
theorem dX8_code_4 : decode cX8_code 4 = .ok (.aload_n 0, 1) := by decide +kernel
theorem dX8_code_5 : decode cX8_code 5 = .ok (.getfield 227, 3) := by decide +kernel
theorem dX8_code_8 : decode cX8_code 8 = .ok (.iload_n 1, 1) := by decide +kernel
theorem dX8_code_9 : decode cX8_code 9 = .ok (.iastore, 1) := by decide +kernel
theorem dX8_code_10 : decode cX8_code 10 = .ok (.aload_n 0, 1) := by decide +kernel
theorem dX8_code_11 : decode cX8_code 11 = .ok (.dup, 1) := by decide +kernel
theorem dX8_code_12 : decode cX8_code 12 = .ok (.getfield 227, 3) := by decide +kernel
theorem dX8_code_15 : decode cX8_code 15 = .ok (.iconst 1, 1) := by decide +kernel
theorem dX8_code_16 : decode cX8_code 16 = .ok (.iadd, 1) := by decide +kernel
theorem dX8_code_17 : decode cX8_code 17 = .ok (.putfield 227, 3) := by decide +kernel
theorem dX8_code_20 : decode cX8_code 20 = .ok (.return_, 1) := by decide +kernel
theorem dX8_opens_0 : decode cX8_opens 0 = .ok (.aload_n 0, 1) := by decide +kernel
theorem dX8_opens_1 : decode cX8_opens 1 = .ok (.getfield 230, 3) := by decide +kernel
theorem dX8_opens_4 : decode cX8_opens 4 = .ok (.bipush 6, 2) := by decide +kernel
theorem dX8_opens_6 : decode cX8_opens 6 = .ok (.if_icmp .ne 10, 3) := by decide +kernel
theorem dX8_opens_9 : decode cX8_opens 9 = .ok (.aload_n 0, 1) := by decide +kernel
theorem dX8_opens_10 : decode cX8_opens 10 = .ok (.iconst 4, 1) := by decide +kernel
theorem dX8_opens_11 : decode cX8_opens 11 = .ok (.iload_n 2, 1) := by decide +kernel
theorem dX8_opens_12 : decode cX8_opens 12 = .ok (.invokevirtual 213, 3) := by decide +kernel
theorem dX8_opens_15 : decode cX8_opens 15 = .ok (.return_, 1) := by decide +kernel
theorem dX8_opens_16 : decode cX8_opens 16 = .ok (.aload_n 0, 1) := by decide +kernel
theorem dX8_opens_17 : decode cX8_opens 17 = .ok (.dup, 1) := by decide +kernel
theorem dX8_opens_18 : decode cX8_opens 18 = .ok (.getfield 230, 3) := by decide +kernel
theorem dX8_opens_21 : decode cX8_opens 21 = .ok (.iconst 1, 1) := by decide +kernel
theorem dX8_opens_22 : decode cX8_opens 22 = .ok (.iadd, 1) := by decide +kernel
theorem dX8_opens_23 : decode cX8_opens 23 = .ok (.putfield 230, 3) := by decide +kernel
theorem dX8_opens_26 : decode cX8_opens 26 = .ok (.aload_n 0, 1) := by decide +kernel
theorem dX8_opens_27 : decode cX8_opens 27 = .ok (.getfield 124, 3) := by decide +kernel
theorem dX8_opens_30 : decode cX8_opens 30 = .ok (.aload_n 0, 1) := by decide +kernel
theorem dX8_opens_31 : decode cX8_opens 31 = .ok (.getfield 233, 3) := by decide +kernel
theorem dX8_opens_34 : decode cX8_opens 34 = .ok (.iload_n 1, 1) := by decide +kernel
theorem dX8_opens_35 : decode cX8_opens 35 = .ok (.iastore, 1) := by decide +kernel
theorem dX8_opens_36 : decode cX8_opens 36 = .ok (.aload_n 0, 1) := by decide +kernel
theorem dX8_opens_37 : decode cX8_opens 37 = .ok (.dup, 1) := by decide +kernel
theorem dX8_opens_38 : decode cX8_opens 38 = .ok (.getfield 233, 3) := by decide +kernel
theorem dX8_opens_41 : decode cX8_opens 41 = .ok (.iconst 1, 1) := by decide +kernel
theorem dX8_opens_42 : decode cX8_opens 42 = .ok (.iadd, 1) := by decide +kernel
theorem dX8_opens_43 : decode cX8_opens 43 = .ok (.putfield 233, 3) := by decide +kernel
theorem dX8_opens_46 : decode cX8_opens 46 = .ok (.return_, 1) := by decide +kernel
theorem dX8_isOn_0 : decode cX8_isOn 0 = .ok (.aload_n 0, 1) := by decide +kernel
theorem dX8_isOn_1 : decode cX8_isOn 1 = .ok (.getfield 233, 3) := by decide +kernel
theorem dX8_isOn_4 : decode cX8_isOn 4 = .ok (.ifCond .le 22, 3) := by decide +kernel
theorem dX8_isOn_7 : decode cX8_isOn 7 = .ok (.aload_n 0, 1) := by decide +kernel
theorem dX8_isOn_8 : decode cX8_isOn 8 = .ok (.getfield 124, 3) := by decide +kernel
theorem dX8_isOn_11 : decode cX8_isOn 11 = .ok (.aload_n 0, 1) := by decide +kernel
theorem dX8_isOn_12 : decode cX8_isOn 12 = .ok (.getfield 233, 3) := by decide +kernel
theorem dX8_isOn_15 : decode cX8_isOn 15 = .ok (.iconst 1, 1) := by decide +kernel
theorem dX8_isOn_16 : decode cX8_isOn 16 = .ok (.isub, 1) := by decide +kernel
theorem dX8_isOn_17 : decode cX8_isOn 17 = .ok (.iaload, 1) := by decide +kernel
theorem dX8_isOn_18 : decode cX8_isOn 18 = .ok (.iload_n 1, 1) := by decide +kernel
theorem dX8_isOn_19 : decode cX8_isOn 19 = .ok (.if_icmp .ne 7, 3) := by decide +kernel
theorem dX8_isOn_22 : decode cX8_isOn 22 = .ok (.iconst 1, 1) := by decide +kernel
theorem dX8_isOn_23 : decode cX8_isOn 23 = .ok (.goto 4, 3) := by decide +kernel
theorem dX8_isOn_26 : decode cX8_isOn 26 = .ok (.iconst 0, 1) := by decide +kernel
theorem dX8_isOn_27 : decode cX8_isOn 27 = .ok (.ireturn, 1) := by decide +kernel
theorem dX8_drops_0 : decode cX8_drops 0 = .ok (.aload_n 0, 1) := by decide +kernel
theorem dX8_drops_1 : decode cX8_drops 1 = .ok (.dup, 1) := by decide +kernel
theorem dX8_drops_2 : decode cX8_drops 2 = .ok (.getfield 233, 3) := by decide +kernel
theorem dX8_drops_5 : decode cX8_drops 5 = .ok (.iconst 1, 1) := by decide +kernel
theorem dX8_drops_6 : decode cX8_drops 6 = .ok (.isub, 1) := by decide +kernel
theorem dX8_drops_7 : decode cX8_drops 7 = .ok (.putfield 233, 3) := by decide +kernel
theorem dX8_drops_10 : decode cX8_drops 10 = .ok (.aload_n 0, 1) := by decide +kernel
theorem dX8_drops_11 : decode cX8_drops 11 = .ok (.aload_n 0, 1) := by decide +kernel
theorem dX8_drops_12 : decode cX8_drops 12 = .ok (.getfield 124, 3) := by decide +kernel
theorem dX8_drops_15 : decode cX8_drops 15 = .ok (.aload_n 0, 1) := by decide +kernel
theorem dX8_drops_16 : decode cX8_drops 16 = .ok (.getfield 233, 3) := by decide +kernel
theorem dX8_drops_19 : decode cX8_drops 19 = .ok (.iaload, 1) := by decide +kernel
theorem dX8_drops_20 : decode cX8_drops 20 = .ok (.invokevirtual 236, 3) := by decide +kernel
theorem dX8_drops_23 : decode cX8_drops 23 = .ok (.return_, 1) := by decide +kernel
theorem dX8_isMark_0 : decode cX8_isMark 0 = .ok (.iload_n 1, 1) := by decide +kernel
theorem dX8_isMark_1 : decode cX8_isMark 1 = .ok (.bipush 20, 2) := by decide +kernel
theorem dX8_isMark_3 : decode cX8_isMark 3 = .ok (.if_icmp .lt 13, 3) := by decide +kernel
theorem dX8_isMark_6 : decode cX8_isMark 6 = .ok (.iload_n 1, 1) := by decide +kernel
theorem dX8_isMark_7 : decode cX8_isMark 7 = .ok (.bipush 24, 2) := by decide +kernel
theorem dX8_isMark_9 : decode cX8_isMark 9 = .ok (.if_icmp .gt 7, 3) := by decide +kernel
theorem dX8_isMark_12 : decode cX8_isMark 12 = .ok (.iconst 1, 1) := by decide +kernel
theorem dX8_isMark_13 : decode cX8_isMark 13 = .ok (.goto 4, 3) := by decide +kernel
theorem dX8_isMark_16 : decode cX8_isMark 16 = .ok (.iconst 0, 1) := by decide +kernel
theorem dX8_isMark_17 : decode cX8_isMark 17 = .ok (.ireturn, 1) := by decide +kernel
theorem dX8_mark_0 : decode cX8_mark 0 = .ok (.aload_n 0, 1) := by decide +kernel
theorem dX8_mark_1 : decode cX8_mark 1 = .ok (.getfield 233, 3) := by decide +kernel
theorem dX8_mark_4 : decode cX8_mark 4 = .ok (.iconst 1, 1) := by decide +kernel
theorem dX8_mark_5 : decode cX8_mark 5 = .ok (.isub, 1) := by decide +kernel
theorem dX8_mark_6 : decode cX8_mark 6 = .ok (.istore_n 1, 1) := by decide +kernel
theorem dX8_mark_7 : decode cX8_mark 7 = .ok (.iload_n 1, 1) := by decide +kernel
theorem dX8_mark_8 : decode cX8_mark 8 = .ok (.aload_n 0, 1) := by decide +kernel
theorem dX8_mark_9 : decode cX8_mark 9 = .ok (.getfield 240, 3) := by decide +kernel
theorem dX8_mark_12 : decode cX8_mark 12 = .ok (.if_icmp .lt 22, 3) := by decide +kernel
theorem dX8_mark_15 : decode cX8_mark 15 = .ok (.aload_n 0, 1) := by decide +kernel
theorem dX8_mark_16 : decode cX8_mark 16 = .ok (.aload_n 0, 1) := by decide +kernel
theorem dX8_mark_17 : decode cX8_mark 17 = .ok (.getfield 124, 3) := by decide +kernel
theorem dX8_mark_20 : decode cX8_mark 20 = .ok (.iload_n 1, 1) := by decide +kernel
theorem dX8_mark_21 : decode cX8_mark 21 = .ok (.iaload, 1) := by decide +kernel
theorem dX8_mark_22 : decode cX8_mark 22 = .ok (.invokevirtual 243, 3) := by decide +kernel
theorem dX8_mark_25 : decode cX8_mark 25 = .ok (.ifCond .ne 9, 3) := by decide +kernel
theorem dX8_mark_28 : decode cX8_mark 28 = .ok (.iinc 1 (-1), 3) := by decide +kernel
theorem dX8_mark_31 : decode cX8_mark 31 = .ok (.goto (-24), 3) := by decide +kernel
theorem dX8_mark_34 : decode cX8_mark 34 = .ok (.iload_n 1, 1) := by decide +kernel
theorem dX8_mark_35 : decode cX8_mark 35 = .ok (.aload_n 0, 1) := by decide +kernel
theorem dX8_mark_36 : decode cX8_mark 36 = .ok (.getfield 240, 3) := by decide +kernel
theorem dX8_mark_39 : decode cX8_mark 39 = .ok (.if_icmp .lt 12, 3) := by decide +kernel
theorem dX8_mark_42 : decode cX8_mark 42 = .ok (.aload_n 0, 1) := by decide +kernel
theorem dX8_mark_43 : decode cX8_mark 43 = .ok (.getfield 124, 3) := by decide +kernel
theorem dX8_mark_46 : decode cX8_mark 46 = .ok (.iload_n 1, 1) := by decide +kernel
theorem dX8_mark_47 : decode cX8_mark 47 = .ok (.iaload, 1) := by decide +kernel
theorem dX8_mark_48 : decode cX8_mark 48 = .ok (.goto 4, 3) := by decide +kernel
theorem dX8_mark_51 : decode cX8_mark 51 = .ok (.iconst (-1), 1) := by decide +kernel
theorem dX8_mark_52 : decode cX8_mark 52 = .ok (.ireturn, 1) := by decide +kernel
theorem dX8_dropsToMark_0 : decode cX8_dropsToMark 0 = .ok (.aload_n 0, 1) := by decide +kernel
theorem dX8_dropsToMark_1 : decode cX8_dropsToMark 1 = .ok (.getfield 233, 3) := by decide +kernel
theorem dX8_dropsToMark_4 : decode cX8_dropsToMark 4 = .ok (.aload_n 0, 1) := by decide +kernel
theorem dX8_dropsToMark_5 : decode cX8_dropsToMark 5 = .ok (.getfield 240, 3) := by decide +kernel
theorem dX8_dropsToMark_8 : decode cX8_dropsToMark 8 = .ok (.if_icmp .le 28, 3) := by decide +kernel
theorem dX8_dropsToMark_11 : decode cX8_dropsToMark 11 = .ok (.aload_n 0, 1) := by decide +kernel
theorem dX8_dropsToMark_12 : decode cX8_dropsToMark 12 = .ok (.aload_n 0, 1) := by decide +kernel
theorem dX8_dropsToMark_13 : decode cX8_dropsToMark 13 = .ok (.getfield 124, 3) := by decide +kernel
theorem dX8_dropsToMark_16 : decode cX8_dropsToMark 16 = .ok (.aload_n 0, 1) := by decide +kernel
theorem dX8_dropsToMark_17 : decode cX8_dropsToMark 17 = .ok (.getfield 233, 3) := by decide +kernel
theorem dX8_dropsToMark_20 : decode cX8_dropsToMark 20 = .ok (.iconst 1, 1) := by decide +kernel
theorem dX8_dropsToMark_21 : decode cX8_dropsToMark 21 = .ok (.isub, 1) := by decide +kernel
theorem dX8_dropsToMark_22 : decode cX8_dropsToMark 22 = .ok (.iaload, 1) := by decide +kernel
theorem dX8_dropsToMark_23 : decode cX8_dropsToMark 23 = .ok (.invokevirtual 243, 3) := by decide +kernel
theorem dX8_dropsToMark_26 : decode cX8_dropsToMark 26 = .ok (.ifCond .ne 10, 3) := by decide +kernel
theorem dX8_dropsToMark_29 : decode cX8_dropsToMark 29 = .ok (.aload_n 0, 1) := by decide +kernel
theorem dX8_dropsToMark_30 : decode cX8_dropsToMark 30 = .ok (.invokevirtual 246, 3) := by decide +kernel
theorem dX8_dropsToMark_33 : decode cX8_dropsToMark 33 = .ok (.goto (-33), 3) := by decide +kernel
theorem dX8_dropsToMark_36 : decode cX8_dropsToMark 36 = .ok (.return_, 1) := by decide +kernel
theorem dX8_onePart_0 : decode cX8_onePart 0 = .ok (.iconst 1, 1) := by decide +kernel
theorem dX8_onePart_1 : decode cX8_onePart 1 = .ok (.istore_n 1, 1) := by decide +kernel
theorem dX8_onePart_2 : decode cX8_onePart 2 = .ok (.iload_n 1, 1) := by decide +kernel
theorem dX8_onePart_3 : decode cX8_onePart 3 = .ok (.ifCond .eq 143, 3) := by decide +kernel
theorem dX8_onePart_6 : decode cX8_onePart 6 = .ok (.aload_n 0, 1) := by decide +kernel
theorem dX8_onePart_7 : decode cX8_onePart 7 = .ok (.getfield 183, 3) := by decide +kernel
theorem dX8_onePart_10 : decode cX8_onePart 10 = .ok (.ifCond .ne 136, 3) := by decide +kernel
theorem dX8_onePart_13 : decode cX8_onePart 13 = .ok (.aload_n 0, 1) := by decide +kernel
theorem dX8_onePart_14 : decode cX8_onePart 14 = .ok (.invokevirtual 195, 3) := by decide +kernel
theorem dX8_onePart_17 : decode cX8_onePart 17 = .ok (.istore_n 2, 1) := by decide +kernel
theorem dX8_onePart_18 : decode cX8_onePart 18 = .ok (.iload_n 2, 1) := by decide +kernel
theorem dX8_onePart_19 : decode cX8_onePart 19 = .ok (.bipush 40, 2) := by decide +kernel
theorem dX8_onePart_21 : decode cX8_onePart 21 = .ok (.if_icmp .ne 26, 3) := by decide +kernel
theorem dX8_onePart_24 : decode cX8_onePart 24 = .ok (.aload_n 0, 1) := by decide +kernel
theorem dX8_onePart_25 : decode cX8_onePart 25 = .ok (.bipush 20, 2) := by decide +kernel
theorem dX8_onePart_27 : decode cX8_onePart 27 = .ok (.aload_n 0, 1) := by decide +kernel
theorem dX8_onePart_28 : decode cX8_onePart 28 = .ok (.getfield 189, 3) := by decide +kernel
theorem dX8_onePart_31 : decode cX8_onePart 31 = .ok (.invokevirtual 249, 3) := by decide +kernel
theorem dX8_onePart_34 : decode cX8_onePart 34 = .ok (.aload_n 0, 1) := by decide +kernel
theorem dX8_onePart_35 : decode cX8_onePart 35 = .ok (.dup, 1) := by decide +kernel
theorem dX8_onePart_36 : decode cX8_onePart 36 = .ok (.getfield 189, 3) := by decide +kernel
theorem dX8_onePart_39 : decode cX8_onePart 39 = .ok (.iconst 1, 1) := by decide +kernel
theorem dX8_onePart_40 : decode cX8_onePart 40 = .ok (.iadd, 1) := by decide +kernel
theorem dX8_onePart_41 : decode cX8_onePart 41 = .ok (.putfield 189, 3) := by decide +kernel
theorem dX8_onePart_44 : decode cX8_onePart 44 = .ok (.goto 99, 3) := by decide +kernel
theorem dX8_onePart_47 : decode cX8_onePart 47 = .ok (.aload_n 0, 1) := by decide +kernel
theorem dX8_onePart_48 : decode cX8_onePart 48 = .ok (.aload_n 0, 1) := by decide +kernel
theorem dX8_onePart_49 : decode cX8_onePart 49 = .ok (.getfield 78, 3) := by decide +kernel
theorem dX8_onePart_52 : decode cX8_onePart 52 = .ok (.invokevirtual 206, 3) := by decide +kernel
theorem dX8_onePart_55 : decode cX8_onePart 55 = .ok (.ifCond .ne 14, 3) := by decide +kernel
theorem dX8_onePart_58 : decode cX8_onePart 58 = .ok (.aload_n 0, 1) := by decide +kernel
theorem dX8_onePart_59 : decode cX8_onePart 59 = .ok (.aload_n 0, 1) := by decide +kernel
theorem dX8_onePart_60 : decode cX8_onePart 60 = .ok (.getfield 81, 3) := by decide +kernel
theorem dX8_onePart_63 : decode cX8_onePart 63 = .ok (.invokevirtual 206, 3) := by decide +kernel
theorem dX8_onePart_66 : decode cX8_onePart 66 = .ok (.ifCond .eq 75, 3) := by decide +kernel
theorem dX8_onePart_69 : decode cX8_onePart 69 = .ok (.aload_n 0, 1) := by decide +kernel
theorem dX8_onePart_70 : decode cX8_onePart 70 = .ok (.aload_n 0, 1) := by decide +kernel
theorem dX8_onePart_71 : decode cX8_onePart 71 = .ok (.getfield 78, 3) := by decide +kernel
theorem dX8_onePart_74 : decode cX8_onePart 74 = .ok (.invokevirtual 210, 3) := by decide +kernel
theorem dX8_onePart_77 : decode cX8_onePart 77 = .ok (.istore_n 3, 1) := by decide +kernel
theorem dX8_onePart_78 : decode cX8_onePart 78 = .ok (.iload_n 3, 1) := by decide +kernel
theorem dX8_onePart_79 : decode cX8_onePart 79 = .ok (.ifCond .ne 11, 3) := by decide +kernel
theorem dX8_onePart_82 : decode cX8_onePart 82 = .ok (.aload_n 0, 1) := by decide +kernel
theorem dX8_onePart_83 : decode cX8_onePart 83 = .ok (.aload_n 0, 1) := by decide +kernel
theorem dX8_onePart_84 : decode cX8_onePart 84 = .ok (.getfield 81, 3) := by decide +kernel
theorem dX8_onePart_87 : decode cX8_onePart 87 = .ok (.invokevirtual 252, 3) := by decide +kernel
theorem dX8_onePart_90 : decode cX8_onePart 90 = .ok (.aload_n 0, 1) := by decide +kernel
theorem dX8_onePart_91 : decode cX8_onePart 91 = .ok (.invokevirtual 195, 3) := by decide +kernel
theorem dX8_onePart_94 : decode cX8_onePart 94 = .ok (.bipush 40, 2) := by decide +kernel
theorem dX8_onePart_96 : decode cX8_onePart 96 = .ok (.if_icmp .ne 10, 3) := by decide +kernel
theorem dX8_onePart_99 : decode cX8_onePart 99 = .ok (.aload_n 0, 1) := by decide +kernel
theorem dX8_onePart_100 : decode cX8_onePart 100 = .ok (.getfield 189, 3) := by decide +kernel
theorem dX8_onePart_103 : decode cX8_onePart 103 = .ok (.goto 4, 3) := by decide +kernel
theorem dX8_onePart_106 : decode cX8_onePart 106 = .ok (.iconst (-1), 1) := by decide +kernel
theorem dX8_onePart_107 : decode cX8_onePart 107 = .ok (.istore 4, 2) := by decide +kernel
theorem dX8_onePart_109 : decode cX8_onePart 109 = .ok (.iload 4, 2) := by decide +kernel
theorem dX8_onePart_111 : decode cX8_onePart 111 = .ok (.iconst (-1), 1) := by decide +kernel
theorem dX8_onePart_112 : decode cX8_onePart 112 = .ok (.if_icmp .eq 20, 3) := by decide +kernel
theorem dX8_onePart_115 : decode cX8_onePart 115 = .ok (.aload_n 0, 1) := by decide +kernel
theorem dX8_onePart_116 : decode cX8_onePart 116 = .ok (.iload_n 3, 1) := by decide +kernel
theorem dX8_onePart_117 : decode cX8_onePart 117 = .ok (.ifCond .eq 8, 3) := by decide +kernel
theorem dX8_onePart_120 : decode cX8_onePart 120 = .ok (.bipush 21, 2) := by decide +kernel
theorem dX8_onePart_122 : decode cX8_onePart 122 = .ok (.goto 5, 3) := by decide +kernel
theorem dX8_onePart_125 : decode cX8_onePart 125 = .ok (.bipush 22, 2) := by decide +kernel
theorem dX8_onePart_127 : decode cX8_onePart 127 = .ok (.iload 4, 2) := by decide +kernel
theorem dX8_onePart_129 : decode cX8_onePart 129 = .ok (.invokevirtual 249, 3) := by decide +kernel
theorem dX8_onePart_132 : decode cX8_onePart 132 = .ok (.aload_n 0, 1) := by decide +kernel
theorem dX8_onePart_133 : decode cX8_onePart 133 = .ok (.bipush 40, 2) := by decide +kernel
theorem dX8_onePart_135 : decode cX8_onePart 135 = .ok (.invokevirtual 256, 3) := by decide +kernel
theorem dX8_onePart_138 : decode cX8_onePart 138 = .ok (.goto 5, 3) := by decide +kernel
theorem dX8_onePart_141 : decode cX8_onePart 141 = .ok (.iconst 0, 1) := by decide +kernel
theorem dX8_onePart_142 : decode cX8_onePart 142 = .ok (.istore_n 1, 1) := by decide +kernel
theorem dX8_onePart_143 : decode cX8_onePart 143 = .ok (.goto (-141), 3) := by decide +kernel
theorem dX8_onePart_146 : decode cX8_onePart 146 = .ok (.aload_n 0, 1) := by decide +kernel
theorem dX8_onePart_147 : decode cX8_onePart 147 = .ok (.getfield 183, 3) := by decide +kernel
theorem dX8_onePart_150 : decode cX8_onePart 150 = .ok (.ifCond .eq 4, 3) := by decide +kernel
theorem dX8_onePart_153 : decode cX8_onePart 153 = .ok (.return_, 1) := by decide +kernel
theorem dX8_onePart_154 : decode cX8_onePart 154 = .ok (.aload_n 0, 1) := by decide +kernel
theorem dX8_onePart_155 : decode cX8_onePart 155 = .ok (.aload_n 0, 1) := by decide +kernel
theorem dX8_onePart_156 : decode cX8_onePart 156 = .ok (.getfield 60, 3) := by decide +kernel
theorem dX8_onePart_159 : decode cX8_onePart 159 = .ok (.invokevirtual 210, 3) := by decide +kernel
theorem dX8_onePart_162 : decode cX8_onePart 162 = .ok (.ifCond .eq 8, 3) := by decide +kernel
theorem dX8_onePart_165 : decode cX8_onePart 165 = .ok (.bipush 7, 2) := by decide +kernel
theorem dX8_onePart_167 : decode cX8_onePart 167 = .ok (.goto 84, 3) := by decide +kernel
theorem dX8_onePart_170 : decode cX8_onePart 170 = .ok (.aload_n 0, 1) := by decide +kernel
theorem dX8_onePart_171 : decode cX8_onePart 171 = .ok (.aload_n 0, 1) := by decide +kernel
theorem dX8_onePart_172 : decode cX8_onePart 172 = .ok (.getfield 63, 3) := by decide +kernel
theorem dX8_onePart_175 : decode cX8_onePart 175 = .ok (.invokevirtual 210, 3) := by decide +kernel
theorem dX8_onePart_178 : decode cX8_onePart 178 = .ok (.ifCond .eq 8, 3) := by decide +kernel
theorem dX8_onePart_181 : decode cX8_onePart 181 = .ok (.bipush 8, 2) := by decide +kernel
theorem dX8_onePart_183 : decode cX8_onePart 183 = .ok (.goto 68, 3) := by decide +kernel
theorem dX8_onePart_186 : decode cX8_onePart 186 = .ok (.aload_n 0, 1) := by decide +kernel
theorem dX8_onePart_187 : decode cX8_onePart 187 = .ok (.aload_n 0, 1) := by decide +kernel
theorem dX8_onePart_188 : decode cX8_onePart 188 = .ok (.getfield 66, 3) := by decide +kernel
theorem dX8_onePart_191 : decode cX8_onePart 191 = .ok (.invokevirtual 210, 3) := by decide +kernel
theorem dX8_onePart_194 : decode cX8_onePart 194 = .ok (.ifCond .eq 8, 3) := by decide +kernel
theorem dX8_onePart_197 : decode cX8_onePart 197 = .ok (.bipush 9, 2) := by decide +kernel
theorem dX8_onePart_199 : decode cX8_onePart 199 = .ok (.goto 52, 3) := by decide +kernel
theorem dX8_onePart_202 : decode cX8_onePart 202 = .ok (.aload_n 0, 1) := by decide +kernel
theorem dX8_onePart_203 : decode cX8_onePart 203 = .ok (.aload_n 0, 1) := by decide +kernel
theorem dX8_onePart_204 : decode cX8_onePart 204 = .ok (.getfield 69, 3) := by decide +kernel
theorem dX8_onePart_207 : decode cX8_onePart 207 = .ok (.invokevirtual 210, 3) := by decide +kernel
theorem dX8_onePart_210 : decode cX8_onePart 210 = .ok (.ifCond .eq 8, 3) := by decide +kernel
theorem dX8_onePart_213 : decode cX8_onePart 213 = .ok (.bipush 10, 2) := by decide +kernel
theorem dX8_onePart_215 : decode cX8_onePart 215 = .ok (.goto 36, 3) := by decide +kernel
theorem dX8_onePart_218 : decode cX8_onePart 218 = .ok (.aload_n 0, 1) := by decide +kernel
theorem dX8_onePart_219 : decode cX8_onePart 219 = .ok (.aload_n 0, 1) := by decide +kernel
theorem dX8_onePart_220 : decode cX8_onePart 220 = .ok (.getfield 72, 3) := by decide +kernel
theorem dX8_onePart_223 : decode cX8_onePart 223 = .ok (.invokevirtual 210, 3) := by decide +kernel
theorem dX8_onePart_226 : decode cX8_onePart 226 = .ok (.ifCond .eq 8, 3) := by decide +kernel
theorem dX8_onePart_229 : decode cX8_onePart 229 = .ok (.bipush 18, 2) := by decide +kernel
theorem dX8_onePart_231 : decode cX8_onePart 231 = .ok (.goto 20, 3) := by decide +kernel
theorem dX8_onePart_234 : decode cX8_onePart 234 = .ok (.aload_n 0, 1) := by decide +kernel
theorem dX8_onePart_235 : decode cX8_onePart 235 = .ok (.aload_n 0, 1) := by decide +kernel
theorem dX8_onePart_236 : decode cX8_onePart 236 = .ok (.getfield 75, 3) := by decide +kernel
theorem dX8_onePart_239 : decode cX8_onePart 239 = .ok (.invokevirtual 210, 3) := by decide +kernel
theorem dX8_onePart_242 : decode cX8_onePart 242 = .ok (.ifCond .eq 8, 3) := by decide +kernel
theorem dX8_onePart_245 : decode cX8_onePart 245 = .ok (.bipush 30, 2) := by decide +kernel
theorem dX8_onePart_247 : decode cX8_onePart 247 = .ok (.goto 4, 3) := by decide +kernel
theorem dX8_onePart_250 : decode cX8_onePart 250 = .ok (.iconst (-1), 1) := by decide +kernel
theorem dX8_onePart_251 : decode cX8_onePart 251 = .ok (.istore_n 2, 1) := by decide +kernel
theorem dX8_onePart_252 : decode cX8_onePart 252 = .ok (.aload_n 0, 1) := by decide +kernel
theorem dX8_onePart_253 : decode cX8_onePart 253 = .ok (.iload_n 2, 1) := by decide +kernel
theorem dX8_onePart_254 : decode cX8_onePart 254 = .ok (.iconst (-1), 1) := by decide +kernel
theorem dX8_onePart_255 : decode cX8_onePart 255 = .ok (.if_icmp .eq 7, 3) := by decide +kernel
theorem dX8_onePart_258 : decode cX8_onePart 258 = .ok (.iload_n 2, 1) := by decide +kernel
theorem dX8_onePart_259 : decode cX8_onePart 259 = .ok (.goto 15, 3) := by decide +kernel
theorem dX8_onePart_262 : decode cX8_onePart 262 = .ok (.sipush 1000, 3) := by decide +kernel
theorem dX8_onePart_265 : decode cX8_onePart 265 = .ok (.aload_n 0, 1) := by decide +kernel
theorem dX8_onePart_266 : decode cX8_onePart 266 = .ok (.iconst 0, 1) := by decide +kernel
theorem dX8_onePart_267 : decode cX8_onePart 267 = .ok (.sipush 9999, 3) := by decide +kernel
theorem dX8_onePart_270 : decode cX8_onePart 270 = .ok (.invokevirtual 259, 3) := by decide +kernel
theorem dX8_onePart_273 : decode cX8_onePart 273 = .ok (.iadd, 1) := by decide +kernel
theorem dX8_onePart_274 : decode cX8_onePart 274 = .ok (.invokevirtual 236, 3) := by decide +kernel
theorem dX8_onePart_277 : decode cX8_onePart 277 = .ok (.return_, 1) := by decide +kernel
theorem dX8_goesOn_0 : decode cX8_goesOn 0 = .ok (.aload_n 0, 1) := by decide +kernel
theorem dX8_goesOn_1 : decode cX8_goesOn 1 = .ok (.getfield 183, 3) := by decide +kernel
theorem dX8_goesOn_4 : decode cX8_goesOn 4 = .ok (.ifCond .ne 114, 3) := by decide +kernel
theorem dX8_goesOn_7 : decode cX8_goesOn 7 = .ok (.aload_n 0, 1) := by decide +kernel
theorem dX8_goesOn_8 : decode cX8_goesOn 8 = .ok (.invokevirtual 195, 3) := by decide +kernel
theorem dX8_goesOn_11 : decode cX8_goesOn 11 = .ok (.bipush 41, 2) := by decide +kernel
theorem dX8_goesOn_13 : decode cX8_goesOn 13 = .ok (.if_icmp .ne 105, 3) := by decide +kernel
theorem dX8_goesOn_16 : decode cX8_goesOn 16 = .ok (.aload_n 0, 1) := by decide +kernel
theorem dX8_goesOn_17 : decode cX8_goesOn 17 = .ok (.invokevirtual 263, 3) := by decide +kernel
theorem dX8_goesOn_20 : decode cX8_goesOn 20 = .ok (.bipush 20, 2) := by decide +kernel
theorem dX8_goesOn_22 : decode cX8_goesOn 22 = .ok (.if_icmp .eq 21, 3) := by decide +kernel
theorem dX8_goesOn_25 : decode cX8_goesOn 25 = .ok (.aload_n 0, 1) := by decide +kernel
theorem dX8_goesOn_26 : decode cX8_goesOn 26 = .ok (.invokevirtual 263, 3) := by decide +kernel
theorem dX8_goesOn_29 : decode cX8_goesOn 29 = .ok (.bipush 23, 2) := by decide +kernel
theorem dX8_goesOn_31 : decode cX8_goesOn 31 = .ok (.if_icmp .eq 12, 3) := by decide +kernel
theorem dX8_goesOn_34 : decode cX8_goesOn 34 = .ok (.aload_n 0, 1) := by decide +kernel
theorem dX8_goesOn_35 : decode cX8_goesOn 35 = .ok (.invokevirtual 263, 3) := by decide +kernel
theorem dX8_goesOn_38 : decode cX8_goesOn 38 = .ok (.bipush 24, 2) := by decide +kernel
theorem dX8_goesOn_40 : decode cX8_goesOn 40 = .ok (.if_icmp .ne 78, 3) := by decide +kernel
theorem dX8_goesOn_43 : decode cX8_goesOn 43 = .ok (.aload_n 0, 1) := by decide +kernel
theorem dX8_goesOn_44 : decode cX8_goesOn 44 = .ok (.dup, 1) := by decide +kernel
theorem dX8_goesOn_45 : decode cX8_goesOn 45 = .ok (.getfield 189, 3) := by decide +kernel
theorem dX8_goesOn_48 : decode cX8_goesOn 48 = .ok (.iconst 1, 1) := by decide +kernel
theorem dX8_goesOn_49 : decode cX8_goesOn 49 = .ok (.iadd, 1) := by decide +kernel
theorem dX8_goesOn_50 : decode cX8_goesOn 50 = .ok (.putfield 189, 3) := by decide +kernel
theorem dX8_goesOn_53 : decode cX8_goesOn 53 = .ok (.aload_n 0, 1) := by decide +kernel
theorem dX8_goesOn_54 : decode cX8_goesOn 54 = .ok (.invokevirtual 266, 3) := by decide +kernel
theorem dX8_goesOn_57 : decode cX8_goesOn 57 = .ok (.aload_n 0, 1) := by decide +kernel
theorem dX8_goesOn_58 : decode cX8_goesOn 58 = .ok (.dup, 1) := by decide +kernel
theorem dX8_goesOn_59 : decode cX8_goesOn 59 = .ok (.getfield 233, 3) := by decide +kernel
theorem dX8_goesOn_62 : decode cX8_goesOn 62 = .ok (.iconst 1, 1) := by decide +kernel
theorem dX8_goesOn_63 : decode cX8_goesOn 63 = .ok (.isub, 1) := by decide +kernel
theorem dX8_goesOn_64 : decode cX8_goesOn 64 = .ok (.putfield 233, 3) := by decide +kernel
theorem dX8_goesOn_67 : decode cX8_goesOn 67 = .ok (.aload_n 0, 1) := by decide +kernel
theorem dX8_goesOn_68 : decode cX8_goesOn 68 = .ok (.dup, 1) := by decide +kernel
theorem dX8_goesOn_69 : decode cX8_goesOn 69 = .ok (.getfield 230, 3) := by decide +kernel
theorem dX8_goesOn_72 : decode cX8_goesOn 72 = .ok (.iconst 1, 1) := by decide +kernel
theorem dX8_goesOn_73 : decode cX8_goesOn 73 = .ok (.isub, 1) := by decide +kernel
theorem dX8_goesOn_74 : decode cX8_goesOn 74 = .ok (.putfield 230, 3) := by decide +kernel
theorem dX8_goesOn_77 : decode cX8_goesOn 77 = .ok (.aload_n 0, 1) := by decide +kernel
theorem dX8_goesOn_78 : decode cX8_goesOn 78 = .ok (.getfield 124, 3) := by decide +kernel
theorem dX8_goesOn_81 : decode cX8_goesOn 81 = .ok (.aload_n 0, 1) := by decide +kernel
theorem dX8_goesOn_82 : decode cX8_goesOn 82 = .ok (.getfield 233, 3) := by decide +kernel
theorem dX8_goesOn_85 : decode cX8_goesOn 85 = .ok (.iaload, 1) := by decide +kernel
theorem dX8_goesOn_86 : decode cX8_goesOn 86 = .ok (.bipush 20, 2) := by decide +kernel
theorem dX8_goesOn_88 : decode cX8_goesOn 88 = .ok (.if_icmp .eq (-88), 3) := by decide +kernel
theorem dX8_goesOn_91 : decode cX8_goesOn 91 = .ok (.aload_n 0, 1) := by decide +kernel
theorem dX8_goesOn_92 : decode cX8_goesOn 92 = .ok (.aload_n 0, 1) := by decide +kernel
theorem dX8_goesOn_93 : decode cX8_goesOn 93 = .ok (.getfield 124, 3) := by decide +kernel
theorem dX8_goesOn_96 : decode cX8_goesOn 96 = .ok (.aload_n 0, 1) := by decide +kernel
theorem dX8_goesOn_97 : decode cX8_goesOn 97 = .ok (.getfield 233, 3) := by decide +kernel
theorem dX8_goesOn_100 : decode cX8_goesOn 100 = .ok (.iaload, 1) := by decide +kernel
theorem dX8_goesOn_101 : decode cX8_goesOn 101 = .ok (.bipush 23, 2) := by decide +kernel
theorem dX8_goesOn_103 : decode cX8_goesOn 103 = .ok (.if_icmp .ne 7, 3) := by decide +kernel
theorem dX8_goesOn_106 : decode cX8_goesOn 106 = .ok (.iconst 5, 1) := by decide +kernel
theorem dX8_goesOn_107 : decode cX8_goesOn 107 = .ok (.goto 5, 3) := by decide +kernel
theorem dX8_goesOn_110 : decode cX8_goesOn 110 = .ok (.bipush 6, 2) := by decide +kernel
theorem dX8_goesOn_112 : decode cX8_goesOn 112 = .ok (.invokevirtual 236, 3) := by decide +kernel
theorem dX8_goesOn_115 : decode cX8_goesOn 115 = .ok (.goto (-115), 3) := by decide +kernel
theorem dX8_goesOn_118 : decode cX8_goesOn 118 = .ok (.aload_n 0, 1) := by decide +kernel
theorem dX8_goesOn_119 : decode cX8_goesOn 119 = .ok (.bipush 42, 2) := by decide +kernel
theorem dX8_goesOn_121 : decode cX8_goesOn 121 = .ok (.invokevirtual 217, 3) := by decide +kernel
theorem dX8_goesOn_124 : decode cX8_goesOn 124 = .ok (.ifCond .ne 12, 3) := by decide +kernel
theorem dX8_goesOn_127 : decode cX8_goesOn 127 = .ok (.aload_n 0, 1) := by decide +kernel
theorem dX8_goesOn_128 : decode cX8_goesOn 128 = .ok (.bipush 47, 2) := by decide +kernel
theorem dX8_goesOn_130 : decode cX8_goesOn 130 = .ok (.invokevirtual 217, 3) := by decide +kernel
theorem dX8_goesOn_133 : decode cX8_goesOn 133 = .ok (.ifCond .eq 70, 3) := by decide +kernel
theorem dX8_goesOn_136 : decode cX8_goesOn 136 = .ok (.aload_n 0, 1) := by decide +kernel
theorem dX8_goesOn_137 : decode cX8_goesOn 137 = .ok (.getfield 7, 3) := by decide +kernel
theorem dX8_goesOn_140 : decode cX8_goesOn 140 = .ok (.aload_n 0, 1) := by decide +kernel
theorem dX8_goesOn_141 : decode cX8_goesOn 141 = .ok (.getfield 189, 3) := by decide +kernel
theorem dX8_goesOn_144 : decode cX8_goesOn 144 = .ok (.iconst 1, 1) := by decide +kernel
theorem dX8_goesOn_145 : decode cX8_goesOn 145 = .ok (.isub, 1) := by decide +kernel
theorem dX8_goesOn_146 : decode cX8_goesOn 146 = .ok (.iaload, 1) := by decide +kernel
theorem dX8_goesOn_147 : decode cX8_goesOn 147 = .ok (.bipush 42, 2) := by decide +kernel
theorem dX8_goesOn_149 : decode cX8_goesOn 149 = .ok (.if_icmp .ne 7, 3) := by decide +kernel
theorem dX8_goesOn_152 : decode cX8_goesOn 152 = .ok (.iconst 3, 1) := by decide +kernel
theorem dX8_goesOn_153 : decode cX8_goesOn 153 = .ok (.goto 4, 3) := by decide +kernel
theorem dX8_goesOn_156 : decode cX8_goesOn 156 = .ok (.iconst 4, 1) := by decide +kernel
theorem dX8_goesOn_157 : decode cX8_goesOn 157 = .ok (.istore_n 1, 1) := by decide +kernel
theorem dX8_goesOn_158 : decode cX8_goesOn 158 = .ok (.aload_n 0, 1) := by decide +kernel
theorem dX8_goesOn_159 : decode cX8_goesOn 159 = .ok (.iconst 3, 1) := by decide +kernel
theorem dX8_goesOn_160 : decode cX8_goesOn 160 = .ok (.invokevirtual 269, 3) := by decide +kernel
theorem dX8_goesOn_163 : decode cX8_goesOn 163 = .ok (.ifCond .ne 11, 3) := by decide +kernel
theorem dX8_goesOn_166 : decode cX8_goesOn 166 = .ok (.aload_n 0, 1) := by decide +kernel
theorem dX8_goesOn_167 : decode cX8_goesOn 167 = .ok (.iconst 4, 1) := by decide +kernel
theorem dX8_goesOn_168 : decode cX8_goesOn 168 = .ok (.invokevirtual 269, 3) := by decide +kernel
theorem dX8_goesOn_171 : decode cX8_goesOn 171 = .ok (.ifCond .eq 10, 3) := by decide +kernel
theorem dX8_goesOn_174 : decode cX8_goesOn 174 = .ok (.aload_n 0, 1) := by decide +kernel
theorem dX8_goesOn_175 : decode cX8_goesOn 175 = .ok (.invokevirtual 246, 3) := by decide +kernel
theorem dX8_goesOn_178 : decode cX8_goesOn 178 = .ok (.goto (-20), 3) := by decide +kernel
theorem dX8_goesOn_181 : decode cX8_goesOn 181 = .ok (.aload_n 0, 1) := by decide +kernel
theorem dX8_goesOn_182 : decode cX8_goesOn 182 = .ok (.getfield 124, 3) := by decide +kernel
theorem dX8_goesOn_185 : decode cX8_goesOn 185 = .ok (.aload_n 0, 1) := by decide +kernel
theorem dX8_goesOn_186 : decode cX8_goesOn 186 = .ok (.getfield 233, 3) := by decide +kernel
theorem dX8_goesOn_189 : decode cX8_goesOn 189 = .ok (.iload_n 1, 1) := by decide +kernel
theorem dX8_goesOn_190 : decode cX8_goesOn 190 = .ok (.iastore, 1) := by decide +kernel
theorem dX8_goesOn_191 : decode cX8_goesOn 191 = .ok (.aload_n 0, 1) := by decide +kernel
theorem dX8_goesOn_192 : decode cX8_goesOn 192 = .ok (.dup, 1) := by decide +kernel
theorem dX8_goesOn_193 : decode cX8_goesOn 193 = .ok (.getfield 233, 3) := by decide +kernel
theorem dX8_goesOn_196 : decode cX8_goesOn 196 = .ok (.iconst 1, 1) := by decide +kernel
theorem dX8_goesOn_197 : decode cX8_goesOn 197 = .ok (.iadd, 1) := by decide +kernel
theorem dX8_goesOn_198 : decode cX8_goesOn 198 = .ok (.putfield 233, 3) := by decide +kernel
theorem dX8_goesOn_201 : decode cX8_goesOn 201 = .ok (.iconst 1, 1) := by decide +kernel
theorem dX8_goesOn_202 : decode cX8_goesOn 202 = .ok (.ireturn, 1) := by decide +kernel
theorem dX8_goesOn_203 : decode cX8_goesOn 203 = .ok (.aload_n 0, 1) := by decide +kernel
theorem dX8_goesOn_204 : decode cX8_goesOn 204 = .ok (.bipush 43, 2) := by decide +kernel
theorem dX8_goesOn_206 : decode cX8_goesOn 206 = .ok (.invokevirtual 217, 3) := by decide +kernel
theorem dX8_goesOn_209 : decode cX8_goesOn 209 = .ok (.ifCond .ne 12, 3) := by decide +kernel
theorem dX8_goesOn_212 : decode cX8_goesOn 212 = .ok (.aload_n 0, 1) := by decide +kernel
theorem dX8_goesOn_213 : decode cX8_goesOn 213 = .ok (.bipush 45, 2) := by decide +kernel
theorem dX8_goesOn_215 : decode cX8_goesOn 215 = .ok (.invokevirtual 217, 3) := by decide +kernel
theorem dX8_goesOn_218 : decode cX8_goesOn 218 = .ok (.ifCond .eq 86, 3) := by decide +kernel
theorem dX8_goesOn_221 : decode cX8_goesOn 221 = .ok (.aload_n 0, 1) := by decide +kernel
theorem dX8_goesOn_222 : decode cX8_goesOn 222 = .ok (.getfield 7, 3) := by decide +kernel
theorem dX8_goesOn_225 : decode cX8_goesOn 225 = .ok (.aload_n 0, 1) := by decide +kernel
theorem dX8_goesOn_226 : decode cX8_goesOn 226 = .ok (.getfield 189, 3) := by decide +kernel
theorem dX8_goesOn_229 : decode cX8_goesOn 229 = .ok (.iconst 1, 1) := by decide +kernel
theorem dX8_goesOn_230 : decode cX8_goesOn 230 = .ok (.isub, 1) := by decide +kernel
theorem dX8_goesOn_231 : decode cX8_goesOn 231 = .ok (.iaload, 1) := by decide +kernel
theorem dX8_goesOn_232 : decode cX8_goesOn 232 = .ok (.bipush 43, 2) := by decide +kernel
theorem dX8_goesOn_234 : decode cX8_goesOn 234 = .ok (.if_icmp .ne 7, 3) := by decide +kernel
theorem dX8_goesOn_237 : decode cX8_goesOn 237 = .ok (.iconst 1, 1) := by decide +kernel
theorem dX8_goesOn_238 : decode cX8_goesOn 238 = .ok (.goto 4, 3) := by decide +kernel
theorem dX8_goesOn_241 : decode cX8_goesOn 241 = .ok (.iconst 2, 1) := by decide +kernel
theorem dX8_goesOn_242 : decode cX8_goesOn 242 = .ok (.istore_n 1, 1) := by decide +kernel
theorem dX8_goesOn_243 : decode cX8_goesOn 243 = .ok (.aload_n 0, 1) := by decide +kernel
theorem dX8_goesOn_244 : decode cX8_goesOn 244 = .ok (.iconst 3, 1) := by decide +kernel
theorem dX8_goesOn_245 : decode cX8_goesOn 245 = .ok (.invokevirtual 269, 3) := by decide +kernel
theorem dX8_goesOn_248 : decode cX8_goesOn 248 = .ok (.ifCond .ne 27, 3) := by decide +kernel
theorem dX8_goesOn_251 : decode cX8_goesOn 251 = .ok (.aload_n 0, 1) := by decide +kernel
theorem dX8_goesOn_252 : decode cX8_goesOn 252 = .ok (.iconst 4, 1) := by decide +kernel
theorem dX8_goesOn_253 : decode cX8_goesOn 253 = .ok (.invokevirtual 269, 3) := by decide +kernel
theorem dX8_goesOn_256 : decode cX8_goesOn 256 = .ok (.ifCond .ne 19, 3) := by decide +kernel
theorem dX8_goesOn_259 : decode cX8_goesOn 259 = .ok (.aload_n 0, 1) := by decide +kernel
theorem dX8_goesOn_260 : decode cX8_goesOn 260 = .ok (.iconst 1, 1) := by decide +kernel
theorem dX8_goesOn_261 : decode cX8_goesOn 261 = .ok (.invokevirtual 269, 3) := by decide +kernel
theorem dX8_goesOn_264 : decode cX8_goesOn 264 = .ok (.ifCond .ne 11, 3) := by decide +kernel
theorem dX8_goesOn_267 : decode cX8_goesOn 267 = .ok (.aload_n 0, 1) := by decide +kernel
theorem dX8_goesOn_268 : decode cX8_goesOn 268 = .ok (.iconst 2, 1) := by decide +kernel
theorem dX8_goesOn_269 : decode cX8_goesOn 269 = .ok (.invokevirtual 269, 3) := by decide +kernel
theorem dX8_goesOn_272 : decode cX8_goesOn 272 = .ok (.ifCond .eq 10, 3) := by decide +kernel
theorem dX8_goesOn_275 : decode cX8_goesOn 275 = .ok (.aload_n 0, 1) := by decide +kernel
theorem dX8_goesOn_276 : decode cX8_goesOn 276 = .ok (.invokevirtual 246, 3) := by decide +kernel
theorem dX8_goesOn_279 : decode cX8_goesOn 279 = .ok (.goto (-36), 3) := by decide +kernel
theorem dX8_goesOn_282 : decode cX8_goesOn 282 = .ok (.aload_n 0, 1) := by decide +kernel
theorem dX8_goesOn_283 : decode cX8_goesOn 283 = .ok (.getfield 124, 3) := by decide +kernel
theorem dX8_goesOn_286 : decode cX8_goesOn 286 = .ok (.aload_n 0, 1) := by decide +kernel
theorem dX8_goesOn_287 : decode cX8_goesOn 287 = .ok (.getfield 233, 3) := by decide +kernel
theorem dX8_goesOn_290 : decode cX8_goesOn 290 = .ok (.iload_n 1, 1) := by decide +kernel
theorem dX8_goesOn_291 : decode cX8_goesOn 291 = .ok (.iastore, 1) := by decide +kernel
theorem dX8_goesOn_292 : decode cX8_goesOn 292 = .ok (.aload_n 0, 1) := by decide +kernel
theorem dX8_goesOn_293 : decode cX8_goesOn 293 = .ok (.dup, 1) := by decide +kernel
theorem dX8_goesOn_294 : decode cX8_goesOn 294 = .ok (.getfield 233, 3) := by decide +kernel
theorem dX8_goesOn_297 : decode cX8_goesOn 297 = .ok (.iconst 1, 1) := by decide +kernel
theorem dX8_goesOn_298 : decode cX8_goesOn 298 = .ok (.iadd, 1) := by decide +kernel
theorem dX8_goesOn_299 : decode cX8_goesOn 299 = .ok (.putfield 233, 3) := by decide +kernel
theorem dX8_goesOn_302 : decode cX8_goesOn 302 = .ok (.iconst 1, 1) := by decide +kernel
theorem dX8_goesOn_303 : decode cX8_goesOn 303 = .ok (.ireturn, 1) := by decide +kernel
theorem dX8_goesOn_304 : decode cX8_goesOn 304 = .ok (.aload_n 0, 1) := by decide +kernel
theorem dX8_goesOn_305 : decode cX8_goesOn 305 = .ok (.invokevirtual 263, 3) := by decide +kernel
theorem dX8_goesOn_308 : decode cX8_goesOn 308 = .ok (.bipush 21, 2) := by decide +kernel
theorem dX8_goesOn_310 : decode cX8_goesOn 310 = .ok (.if_icmp .eq 12, 3) := by decide +kernel
theorem dX8_goesOn_313 : decode cX8_goesOn 313 = .ok (.aload_n 0, 1) := by decide +kernel
theorem dX8_goesOn_314 : decode cX8_goesOn 314 = .ok (.invokevirtual 263, 3) := by decide +kernel
theorem dX8_goesOn_317 : decode cX8_goesOn 317 = .ok (.bipush 22, 2) := by decide +kernel
theorem dX8_goesOn_319 : decode cX8_goesOn 319 = .ok (.if_icmp .ne 39, 3) := by decide +kernel
theorem dX8_goesOn_322 : decode cX8_goesOn 322 = .ok (.aload_n 0, 1) := by decide +kernel
theorem dX8_goesOn_323 : decode cX8_goesOn 323 = .ok (.bipush 44, 2) := by decide +kernel
theorem dX8_goesOn_325 : decode cX8_goesOn 325 = .ok (.invokevirtual 256, 3) := by decide +kernel
theorem dX8_goesOn_328 : decode cX8_goesOn 328 = .ok (.aload_n 0, 1) := by decide +kernel
theorem dX8_goesOn_329 : decode cX8_goesOn 329 = .ok (.getfield 183, 3) := by decide +kernel
theorem dX8_goesOn_332 : decode cX8_goesOn 332 = .ok (.ifCond .eq 5, 3) := by decide +kernel
theorem dX8_goesOn_335 : decode cX8_goesOn 335 = .ok (.iconst 0, 1) := by decide +kernel
theorem dX8_goesOn_336 : decode cX8_goesOn 336 = .ok (.ireturn, 1) := by decide +kernel
theorem dX8_goesOn_337 : decode cX8_goesOn 337 = .ok (.aload_n 0, 1) := by decide +kernel
theorem dX8_goesOn_338 : decode cX8_goesOn 338 = .ok (.invokevirtual 266, 3) := by decide +kernel
theorem dX8_goesOn_341 : decode cX8_goesOn 341 = .ok (.aload_n 0, 1) := by decide +kernel
theorem dX8_goesOn_342 : decode cX8_goesOn 342 = .ok (.getfield 124, 3) := by decide +kernel
theorem dX8_goesOn_345 : decode cX8_goesOn 345 = .ok (.aload_n 0, 1) := by decide +kernel
theorem dX8_goesOn_346 : decode cX8_goesOn 346 = .ok (.getfield 233, 3) := by decide +kernel
theorem dX8_goesOn_349 : decode cX8_goesOn 349 = .ok (.iconst 1, 1) := by decide +kernel
theorem dX8_goesOn_350 : decode cX8_goesOn 350 = .ok (.isub, 1) := by decide +kernel
theorem dX8_goesOn_351 : decode cX8_goesOn 351 = .ok (.dup2, 1) := by decide +kernel
theorem dX8_goesOn_352 : decode cX8_goesOn 352 = .ok (.iaload, 1) := by decide +kernel
theorem dX8_goesOn_353 : decode cX8_goesOn 353 = .ok (.iconst 2, 1) := by decide +kernel
theorem dX8_goesOn_354 : decode cX8_goesOn 354 = .ok (.iadd, 1) := by decide +kernel
theorem dX8_goesOn_355 : decode cX8_goesOn 355 = .ok (.iastore, 1) := by decide +kernel
theorem dX8_goesOn_356 : decode cX8_goesOn 356 = .ok (.iconst 1, 1) := by decide +kernel
theorem dX8_goesOn_357 : decode cX8_goesOn 357 = .ok (.ireturn, 1) := by decide +kernel
theorem dX8_goesOn_358 : decode cX8_goesOn 358 = .ok (.aload_n 0, 1) := by decide +kernel
theorem dX8_goesOn_359 : decode cX8_goesOn 359 = .ok (.invokevirtual 263, 3) := by decide +kernel
theorem dX8_goesOn_362 : decode cX8_goesOn 362 = .ok (.iconst (-1), 1) := by decide +kernel
theorem dX8_goesOn_363 : decode cX8_goesOn 363 = .ok (.if_icmp .eq 19, 3) := by decide +kernel
theorem dX8_goesOn_366 : decode cX8_goesOn 366 = .ok (.aload_n 0, 1) := by decide +kernel
theorem dX8_goesOn_367 : decode cX8_goesOn 367 = .ok (.getfield 183, 3) := by decide +kernel
theorem dX8_goesOn_370 : decode cX8_goesOn 370 = .ok (.ifCond .ne 12, 3) := by decide +kernel
theorem dX8_goesOn_373 : decode cX8_goesOn 373 = .ok (.aload_n 0, 1) := by decide +kernel
theorem dX8_goesOn_374 : decode cX8_goesOn 374 = .ok (.iconst 1, 1) := by decide +kernel
theorem dX8_goesOn_375 : decode cX8_goesOn 375 = .ok (.aload_n 0, 1) := by decide +kernel
theorem dX8_goesOn_376 : decode cX8_goesOn 376 = .ok (.getfield 189, 3) := by decide +kernel
theorem dX8_goesOn_379 : decode cX8_goesOn 379 = .ok (.invokevirtual 213, 3) := by decide +kernel
theorem dX8_goesOn_382 : decode cX8_goesOn 382 = .ok (.iconst 0, 1) := by decide +kernel
theorem dX8_goesOn_383 : decode cX8_goesOn 383 = .ok (.ireturn, 1) := by decide +kernel
theorem dX8_sums_0 : decode cX8_sums 0 = .ok (.aload_n 0, 1) := by decide +kernel
theorem dX8_sums_1 : decode cX8_sums 1 = .ok (.getfield 240, 3) := by decide +kernel
theorem dX8_sums_4 : decode cX8_sums 4 = .ok (.istore_n 1, 1) := by decide +kernel
theorem dX8_sums_5 : decode cX8_sums 5 = .ok (.aload_n 0, 1) := by decide +kernel
theorem dX8_sums_6 : decode cX8_sums 6 = .ok (.aload_n 0, 1) := by decide +kernel
theorem dX8_sums_7 : decode cX8_sums 7 = .ok (.getfield 233, 3) := by decide +kernel
theorem dX8_sums_10 : decode cX8_sums 10 = .ok (.putfield 240, 3) := by decide +kernel
theorem dX8_sums_13 : decode cX8_sums 13 = .ok (.iconst 1, 1) := by decide +kernel
theorem dX8_sums_14 : decode cX8_sums 14 = .ok (.istore_n 2, 1) := by decide +kernel
theorem dX8_sums_15 : decode cX8_sums 15 = .ok (.iload_n 2, 1) := by decide +kernel
theorem dX8_sums_16 : decode cX8_sums 16 = .ok (.ifCond .eq 37, 3) := by decide +kernel
theorem dX8_sums_19 : decode cX8_sums 19 = .ok (.aload_n 0, 1) := by decide +kernel
theorem dX8_sums_20 : decode cX8_sums 20 = .ok (.getfield 183, 3) := by decide +kernel
theorem dX8_sums_23 : decode cX8_sums 23 = .ok (.ifCond .ne 30, 3) := by decide +kernel
theorem dX8_sums_26 : decode cX8_sums 26 = .ok (.aload_n 0, 1) := by decide +kernel
theorem dX8_sums_27 : decode cX8_sums 27 = .ok (.invokevirtual 272, 3) := by decide +kernel
theorem dX8_sums_30 : decode cX8_sums 30 = .ok (.aload_n 0, 1) := by decide +kernel
theorem dX8_sums_31 : decode cX8_sums 31 = .ok (.getfield 183, 3) := by decide +kernel
theorem dX8_sums_34 : decode cX8_sums 34 = .ok (.ifCond .ne 14, 3) := by decide +kernel
theorem dX8_sums_37 : decode cX8_sums 37 = .ok (.aload_n 0, 1) := by decide +kernel
theorem dX8_sums_38 : decode cX8_sums 38 = .ok (.invokevirtual 275, 3) := by decide +kernel
theorem dX8_sums_41 : decode cX8_sums 41 = .ok (.ifCond .eq 7, 3) := by decide +kernel
theorem dX8_sums_44 : decode cX8_sums 44 = .ok (.iconst 1, 1) := by decide +kernel
theorem dX8_sums_45 : decode cX8_sums 45 = .ok (.goto 4, 3) := by decide +kernel
theorem dX8_sums_48 : decode cX8_sums 48 = .ok (.iconst 0, 1) := by decide +kernel
theorem dX8_sums_49 : decode cX8_sums 49 = .ok (.istore_n 2, 1) := by decide +kernel
theorem dX8_sums_50 : decode cX8_sums 50 = .ok (.goto (-35), 3) := by decide +kernel
theorem dX8_sums_53 : decode cX8_sums 53 = .ok (.aload_n 0, 1) := by decide +kernel
theorem dX8_sums_54 : decode cX8_sums 54 = .ok (.getfield 183, 3) := by decide +kernel
theorem dX8_sums_57 : decode cX8_sums 57 = .ok (.ifCond .ne 21, 3) := by decide +kernel
theorem dX8_sums_60 : decode cX8_sums 60 = .ok (.aload_n 0, 1) := by decide +kernel
theorem dX8_sums_61 : decode cX8_sums 61 = .ok (.getfield 233, 3) := by decide +kernel
theorem dX8_sums_64 : decode cX8_sums 64 = .ok (.aload_n 0, 1) := by decide +kernel
theorem dX8_sums_65 : decode cX8_sums 65 = .ok (.getfield 240, 3) := by decide +kernel
theorem dX8_sums_68 : decode cX8_sums 68 = .ok (.if_icmp .le 10, 3) := by decide +kernel
theorem dX8_sums_71 : decode cX8_sums 71 = .ok (.aload_n 0, 1) := by decide +kernel
theorem dX8_sums_72 : decode cX8_sums 72 = .ok (.invokevirtual 246, 3) := by decide +kernel
theorem dX8_sums_75 : decode cX8_sums 75 = .ok (.goto (-22), 3) := by decide +kernel
