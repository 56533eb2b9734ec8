theorem d_M_init_0 : decode zy_M_init.2.1 0 = .ok (.aload_n 0, 1) := by decide +kernel
theorem d_M_init_1 : decode zy_M_init.2.1 1 = .ok (.invokespecial 7, 3) := by decide +kernel
theorem d_M_init_4 : decode zy_M_init.2.1 4 = .ok (.aload_n 0, 1) := by decide +kernel
theorem d_M_init_5 : decode zy_M_init.2.1 5 = .ok (.bipush 6, 2) := by decide +kernel
theorem d_M_init_7 : decode zy_M_init.2.1 7 = .ok (.newarray .boolean, 2) := by decide +kernel
theorem d_M_init_9 : decode zy_M_init.2.1 9 = .ok (.putfield 13, 3) := by decide +kernel
theorem d_M_init_12 : decode zy_M_init.2.1 12 = .ok (.aload_n 0, 1) := by decide +kernel
theorem d_M_init_13 : decode zy_M_init.2.1 13 = .ok (.bipush 6, 2) := by decide +kernel
theorem d_M_init_15 : decode zy_M_init.2.1 15 = .ok (.newarray .int, 2) := by decide +kernel
theorem d_M_init_17 : decode zy_M_init.2.1 17 = .ok (.putfield 17, 3) := by decide +kernel
theorem d_M_init_20 : decode zy_M_init.2.1 20 = .ok (.aload_n 0, 1) := by decide +kernel
theorem d_M_init_21 : decode zy_M_init.2.1 21 = .ok (.bipush 7, 2) := by decide +kernel
theorem d_M_init_23 : decode zy_M_init.2.1 23 = .ok (.newarray .int, 2) := by decide +kernel
theorem d_M_init_25 : decode zy_M_init.2.1 25 = .ok (.putfield 21, 3) := by decide +kernel
theorem d_M_init_28 : decode zy_M_init.2.1 28 = .ok (.aload_n 0, 1) := by decide +kernel
theorem d_M_init_29 : decode zy_M_init.2.1 29 = .ok (.bipush 7, 2) := by decide +kernel
theorem d_M_init_31 : decode zy_M_init.2.1 31 = .ok (.newarray .int, 2) := by decide +kernel
theorem d_M_init_33 : decode zy_M_init.2.1 33 = .ok (.putfield 24, 3) := by decide +kernel
theorem d_M_init_36 : decode zy_M_init.2.1 36 = .ok (.aload_n 0, 1) := by decide +kernel
theorem d_M_init_37 : decode zy_M_init.2.1 37 = .ok (.bipush 7, 2) := by decide +kernel
theorem d_M_init_39 : decode zy_M_init.2.1 39 = .ok (.newarray .int, 2) := by decide +kernel
theorem d_M_init_41 : decode zy_M_init.2.1 41 = .ok (.putfield 27, 3) := by decide +kernel
theorem d_M_init_44 : decode zy_M_init.2.1 44 = .ok (.aload_n 0, 1) := by decide +kernel
theorem d_M_init_45 : decode zy_M_init.2.1 45 = .ok (.bipush 7, 2) := by decide +kernel
theorem d_M_init_47 : decode zy_M_init.2.1 47 = .ok (.newarray .int, 2) := by decide +kernel
theorem d_M_init_49 : decode zy_M_init.2.1 49 = .ok (.putfield 30, 3) := by decide +kernel
theorem d_M_init_52 : decode zy_M_init.2.1 52 = .ok (.aload_n 0, 1) := by decide +kernel
theorem d_M_init_53 : decode zy_M_init.2.1 53 = .ok (.bipush 7, 2) := by decide +kernel
theorem d_M_init_55 : decode zy_M_init.2.1 55 = .ok (.newarray .int, 2) := by decide +kernel
theorem d_M_init_57 : decode zy_M_init.2.1 57 = .ok (.putfield 33, 3) := by decide +kernel
theorem d_M_init_60 : decode zy_M_init.2.1 60 = .ok (.aload_n 0, 1) := by decide +kernel
theorem d_M_init_61 : decode zy_M_init.2.1 61 = .ok (.bipush 42, 2) := by decide +kernel
theorem d_M_init_63 : decode zy_M_init.2.1 63 = .ok (.newarray .int, 2) := by decide +kernel
theorem d_M_init_65 : decode zy_M_init.2.1 65 = .ok (.putfield 36, 3) := by decide +kernel
theorem d_M_init_68 : decode zy_M_init.2.1 68 = .ok (.aload_n 0, 1) := by decide +kernel
theorem d_M_init_69 : decode zy_M_init.2.1 69 = .ok (.bipush 42, 2) := by decide +kernel
theorem d_M_init_71 : decode zy_M_init.2.1 71 = .ok (.newarray .boolean, 2) := by decide +kernel
theorem d_M_init_73 : decode zy_M_init.2.1 73 = .ok (.putfield 39, 3) := by decide +kernel
theorem d_M_init_76 : decode zy_M_init.2.1 76 = .ok (.aload_n 0, 1) := by decide +kernel
theorem d_M_init_77 : decode zy_M_init.2.1 77 = .ok (.bipush 42, 2) := by decide +kernel
theorem d_M_init_79 : decode zy_M_init.2.1 79 = .ok (.newarray .boolean, 2) := by decide +kernel
theorem d_M_init_81 : decode zy_M_init.2.1 81 = .ok (.putfield 42, 3) := by decide +kernel
theorem d_M_init_84 : decode zy_M_init.2.1 84 = .ok (.aload_n 0, 1) := by decide +kernel
theorem d_M_init_85 : decode zy_M_init.2.1 85 = .ok (.sipush 160, 3) := by decide +kernel
theorem d_M_init_88 : decode zy_M_init.2.1 88 = .ok (.newarray .int, 2) := by decide +kernel
theorem d_M_init_90 : decode zy_M_init.2.1 90 = .ok (.putfield 45, 3) := by decide +kernel
theorem d_M_init_93 : decode zy_M_init.2.1 93 = .ok (.aload_n 0, 1) := by decide +kernel
theorem d_M_init_94 : decode zy_M_init.2.1 94 = .ok (.sipush 3570, 3) := by decide +kernel
theorem d_M_init_97 : decode zy_M_init.2.1 97 = .ok (.newarray .int, 2) := by decide +kernel
theorem d_M_init_99 : decode zy_M_init.2.1 99 = .ok (.putfield 48, 3) := by decide +kernel
theorem d_M_init_102 : decode zy_M_init.2.1 102 = .ok (.aload_n 0, 1) := by decide +kernel
theorem d_M_init_103 : decode zy_M_init.2.1 103 = .ok (.bipush 21, 2) := by decide +kernel
theorem d_M_init_105 : decode zy_M_init.2.1 105 = .ok (.newarray .int, 2) := by decide +kernel
theorem d_M_init_107 : decode zy_M_init.2.1 107 = .ok (.putfield 51, 3) := by decide +kernel
theorem d_M_init_110 : decode zy_M_init.2.1 110 = .ok (.aload_n 0, 1) := by decide +kernel
theorem d_M_init_111 : decode zy_M_init.2.1 111 = .ok (.bipush 21, 2) := by decide +kernel
theorem d_M_init_113 : decode zy_M_init.2.1 113 = .ok (.newarray .int, 2) := by decide +kernel
theorem d_M_init_115 : decode zy_M_init.2.1 115 = .ok (.putfield 54, 3) := by decide +kernel
theorem d_M_init_118 : decode zy_M_init.2.1 118 = .ok (.aload_n 0, 1) := by decide +kernel
theorem d_M_init_119 : decode zy_M_init.2.1 119 = .ok (.bipush 60, 2) := by decide +kernel
theorem d_M_init_121 : decode zy_M_init.2.1 121 = .ok (.newarray .char, 2) := by decide +kernel
theorem d_M_init_123 : decode zy_M_init.2.1 123 = .ok (.dup, 1) := by decide +kernel
theorem d_M_init_124 : decode zy_M_init.2.1 124 = .ok (.iconst 0, 1) := by decide +kernel
theorem d_M_init_125 : decode zy_M_init.2.1 125 = .ok (.bipush 111, 2) := by decide +kernel
theorem d_M_init_127 : decode zy_M_init.2.1 127 = .ok (.castore, 1) := by decide +kernel
theorem d_M_init_128 : decode zy_M_init.2.1 128 = .ok (.dup, 1) := by decide +kernel
theorem d_M_init_129 : decode zy_M_init.2.1 129 = .ok (.iconst 1, 1) := by decide +kernel
theorem d_M_init_130 : decode zy_M_init.2.1 130 = .ok (.bipush 119, 2) := by decide +kernel
theorem d_M_init_132 : decode zy_M_init.2.1 132 = .ok (.castore, 1) := by decide +kernel
theorem d_M_init_133 : decode zy_M_init.2.1 133 = .ok (.dup, 1) := by decide +kernel
theorem d_M_init_134 : decode zy_M_init.2.1 134 = .ok (.iconst 2, 1) := by decide +kernel
theorem d_M_init_135 : decode zy_M_init.2.1 135 = .ok (.bipush 110, 2) := by decide +kernel
theorem d_M_init_137 : decode zy_M_init.2.1 137 = .ok (.castore, 1) := by decide +kernel
theorem d_M_init_138 : decode zy_M_init.2.1 138 = .ok (.dup, 1) := by decide +kernel
theorem d_M_init_139 : decode zy_M_init.2.1 139 = .ok (.iconst 3, 1) := by decide +kernel
theorem d_M_init_140 : decode zy_M_init.2.1 140 = .ok (.bipush 32, 2) := by decide +kernel
theorem d_M_init_142 : decode zy_M_init.2.1 142 = .ok (.castore, 1) := by decide +kernel
theorem d_M_init_143 : decode zy_M_init.2.1 143 = .ok (.dup, 1) := by decide +kernel
theorem d_M_init_144 : decode zy_M_init.2.1 144 = .ok (.iconst 4, 1) := by decide +kernel
theorem d_M_init_145 : decode zy_M_init.2.1 145 = .ok (.bipush 110, 2) := by decide +kernel
theorem d_M_init_147 : decode zy_M_init.2.1 147 = .ok (.castore, 1) := by decide +kernel
theorem d_M_init_148 : decode zy_M_init.2.1 148 = .ok (.dup, 1) := by decide +kernel
theorem d_M_init_149 : decode zy_M_init.2.1 149 = .ok (.iconst 5, 1) := by decide +kernel
theorem d_M_init_150 : decode zy_M_init.2.1 150 = .ok (.bipush 117, 2) := by decide +kernel
theorem d_M_init_152 : decode zy_M_init.2.1 152 = .ok (.castore, 1) := by decide +kernel
theorem d_M_init_153 : decode zy_M_init.2.1 153 = .ok (.dup, 1) := by decide +kernel
theorem d_M_init_154 : decode zy_M_init.2.1 154 = .ok (.bipush 6, 2) := by decide +kernel
theorem d_M_init_156 : decode zy_M_init.2.1 156 = .ok (.bipush 109, 2) := by decide +kernel
theorem d_M_init_158 : decode zy_M_init.2.1 158 = .ok (.castore, 1) := by decide +kernel
theorem d_M_init_159 : decode zy_M_init.2.1 159 = .ok (.dup, 1) := by decide +kernel
theorem d_M_init_160 : decode zy_M_init.2.1 160 = .ok (.bipush 7, 2) := by decide +kernel
theorem d_M_init_162 : decode zy_M_init.2.1 162 = .ok (.bipush 98, 2) := by decide +kernel
theorem d_M_init_164 : decode zy_M_init.2.1 164 = .ok (.castore, 1) := by decide +kernel
theorem d_M_init_165 : decode zy_M_init.2.1 165 = .ok (.dup, 1) := by decide +kernel
theorem d_M_init_166 : decode zy_M_init.2.1 166 = .ok (.bipush 8, 2) := by decide +kernel
theorem d_M_init_168 : decode zy_M_init.2.1 168 = .ok (.bipush 101, 2) := by decide +kernel
theorem d_M_init_170 : decode zy_M_init.2.1 170 = .ok (.castore, 1) := by decide +kernel
theorem d_M_init_171 : decode zy_M_init.2.1 171 = .ok (.dup, 1) := by decide +kernel
theorem d_M_init_172 : decode zy_M_init.2.1 172 = .ok (.bipush 9, 2) := by decide +kernel
theorem d_M_init_174 : decode zy_M_init.2.1 174 = .ok (.bipush 114, 2) := by decide +kernel
theorem d_M_init_176 : decode zy_M_init.2.1 176 = .ok (.castore, 1) := by decide +kernel
theorem d_M_init_177 : decode zy_M_init.2.1 177 = .ok (.dup, 1) := by decide +kernel
theorem d_M_init_178 : decode zy_M_init.2.1 178 = .ok (.bipush 10, 2) := by decide +kernel
theorem d_M_init_180 : decode zy_M_init.2.1 180 = .ok (.bipush 32, 2) := by decide +kernel
theorem d_M_init_182 : decode zy_M_init.2.1 182 = .ok (.castore, 1) := by decide +kernel
theorem d_M_init_183 : decode zy_M_init.2.1 183 = .ok (.dup, 1) := by decide +kernel
theorem d_M_init_184 : decode zy_M_init.2.1 184 = .ok (.bipush 11, 2) := by decide +kernel
theorem d_M_init_186 : decode zy_M_init.2.1 186 = .ok (.bipush 121, 2) := by decide +kernel
theorem d_M_init_188 : decode zy_M_init.2.1 188 = .ok (.castore, 1) := by decide +kernel
theorem d_M_init_189 : decode zy_M_init.2.1 189 = .ok (.dup, 1) := by decide +kernel
theorem d_M_init_190 : decode zy_M_init.2.1 190 = .ok (.bipush 12, 2) := by decide +kernel
theorem d_M_init_192 : decode zy_M_init.2.1 192 = .ok (.bipush 101, 2) := by decide +kernel
theorem d_M_init_194 : decode zy_M_init.2.1 194 = .ok (.castore, 1) := by decide +kernel
theorem d_M_init_195 : decode zy_M_init.2.1 195 = .ok (.dup, 1) := by decide +kernel
theorem d_M_init_196 : decode zy_M_init.2.1 196 = .ok (.bipush 13, 2) := by decide +kernel
theorem d_M_init_198 : decode zy_M_init.2.1 198 = .ok (.bipush 97, 2) := by decide +kernel
theorem d_M_init_200 : decode zy_M_init.2.1 200 = .ok (.castore, 1) := by decide +kernel
theorem d_M_init_201 : decode zy_M_init.2.1 201 = .ok (.dup, 1) := by decide +kernel
theorem d_M_init_202 : decode zy_M_init.2.1 202 = .ok (.bipush 14, 2) := by decide +kernel
theorem d_M_init_204 : decode zy_M_init.2.1 204 = .ok (.bipush 114, 2) := by decide +kernel
theorem d_M_init_206 : decode zy_M_init.2.1 206 = .ok (.castore, 1) := by decide +kernel
theorem d_M_init_207 : decode zy_M_init.2.1 207 = .ok (.dup, 1) := by decide +kernel
theorem d_M_init_208 : decode zy_M_init.2.1 208 = .ok (.bipush 15, 2) := by decide +kernel
theorem d_M_init_210 : decode zy_M_init.2.1 210 = .ok (.bipush 115, 2) := by decide +kernel
theorem d_M_init_212 : decode zy_M_init.2.1 212 = .ok (.castore, 1) := by decide +kernel
theorem d_M_init_213 : decode zy_M_init.2.1 213 = .ok (.dup, 1) := by decide +kernel
theorem d_M_init_214 : decode zy_M_init.2.1 214 = .ok (.bipush 16, 2) := by decide +kernel
theorem d_M_init_216 : decode zy_M_init.2.1 216 = .ok (.bipush 32, 2) := by decide +kernel
theorem d_M_init_218 : decode zy_M_init.2.1 218 = .ok (.castore, 1) := by decide +kernel
theorem d_M_init_219 : decode zy_M_init.2.1 219 = .ok (.dup, 1) := by decide +kernel
theorem d_M_init_220 : decode zy_M_init.2.1 220 = .ok (.bipush 17, 2) := by decide +kernel
theorem d_M_init_222 : decode zy_M_init.2.1 222 = .ok (.bipush 109, 2) := by decide +kernel
theorem d_M_init_224 : decode zy_M_init.2.1 224 = .ok (.castore, 1) := by decide +kernel
theorem d_M_init_225 : decode zy_M_init.2.1 225 = .ok (.dup, 1) := by decide +kernel
theorem d_M_init_226 : decode zy_M_init.2.1 226 = .ok (.bipush 18, 2) := by decide +kernel
theorem d_M_init_228 : decode zy_M_init.2.1 228 = .ok (.bipush 117, 2) := by decide +kernel
theorem d_M_init_230 : decode zy_M_init.2.1 230 = .ok (.castore, 1) := by decide +kernel
theorem d_M_init_231 : decode zy_M_init.2.1 231 = .ok (.dup, 1) := by decide +kernel
theorem d_M_init_232 : decode zy_M_init.2.1 232 = .ok (.bipush 19, 2) := by decide +kernel
theorem d_M_init_234 : decode zy_M_init.2.1 234 = .ok (.bipush 115, 2) := by decide +kernel
theorem d_M_init_236 : decode zy_M_init.2.1 236 = .ok (.castore, 1) := by decide +kernel
theorem d_M_init_237 : decode zy_M_init.2.1 237 = .ok (.dup, 1) := by decide +kernel
theorem d_M_init_238 : decode zy_M_init.2.1 238 = .ok (.bipush 20, 2) := by decide +kernel
theorem d_M_init_240 : decode zy_M_init.2.1 240 = .ok (.bipush 116, 2) := by decide +kernel
theorem d_M_init_242 : decode zy_M_init.2.1 242 = .ok (.castore, 1) := by decide +kernel
theorem d_M_init_243 : decode zy_M_init.2.1 243 = .ok (.dup, 1) := by decide +kernel
theorem d_M_init_244 : decode zy_M_init.2.1 244 = .ok (.bipush 21, 2) := by decide +kernel
theorem d_M_init_246 : decode zy_M_init.2.1 246 = .ok (.bipush 32, 2) := by decide +kernel
theorem d_M_init_248 : decode zy_M_init.2.1 248 = .ok (.castore, 1) := by decide +kernel
theorem d_M_init_249 : decode zy_M_init.2.1 249 = .ok (.dup, 1) := by decide +kernel
theorem d_M_init_250 : decode zy_M_init.2.1 250 = .ok (.bipush 22, 2) := by decide +kernel
theorem d_M_init_252 : decode zy_M_init.2.1 252 = .ok (.bipush 118, 2) := by decide +kernel
theorem d_M_init_254 : decode zy_M_init.2.1 254 = .ok (.castore, 1) := by decide +kernel
theorem d_M_init_255 : decode zy_M_init.2.1 255 = .ok (.dup, 1) := by decide +kernel
theorem d_M_init_256 : decode zy_M_init.2.1 256 = .ok (.bipush 23, 2) := by decide +kernel
theorem d_M_init_258 : decode zy_M_init.2.1 258 = .ok (.bipush 97, 2) := by decide +kernel
theorem d_M_init_260 : decode zy_M_init.2.1 260 = .ok (.castore, 1) := by decide +kernel
theorem d_M_init_261 : decode zy_M_init.2.1 261 = .ok (.dup, 1) := by decide +kernel
theorem d_M_init_262 : decode zy_M_init.2.1 262 = .ok (.bipush 24, 2) := by decide +kernel
theorem d_M_init_264 : decode zy_M_init.2.1 264 = .ok (.bipush 108, 2) := by decide +kernel
theorem d_M_init_266 : decode zy_M_init.2.1 266 = .ok (.castore, 1) := by decide +kernel
theorem d_M_init_267 : decode zy_M_init.2.1 267 = .ok (.dup, 1) := by decide +kernel
theorem d_M_init_268 : decode zy_M_init.2.1 268 = .ok (.bipush 25, 2) := by decide +kernel
theorem d_M_init_270 : decode zy_M_init.2.1 270 = .ok (.bipush 117, 2) := by decide +kernel
theorem d_M_init_272 : decode zy_M_init.2.1 272 = .ok (.castore, 1) := by decide +kernel
theorem d_M_init_273 : decode zy_M_init.2.1 273 = .ok (.dup, 1) := by decide +kernel
theorem d_M_init_274 : decode zy_M_init.2.1 274 = .ok (.bipush 26, 2) := by decide +kernel
theorem d_M_init_276 : decode zy_M_init.2.1 276 = .ok (.bipush 101, 2) := by decide +kernel
theorem d_M_init_278 : decode zy_M_init.2.1 278 = .ok (.castore, 1) := by decide +kernel
theorem d_M_init_279 : decode zy_M_init.2.1 279 = .ok (.dup, 1) := by decide +kernel
theorem d_M_init_280 : decode zy_M_init.2.1 280 = .ok (.bipush 27, 2) := by decide +kernel
theorem d_M_init_282 : decode zy_M_init.2.1 282 = .ok (.bipush 32, 2) := by decide +kernel
theorem d_M_init_284 : decode zy_M_init.2.1 284 = .ok (.castore, 1) := by decide +kernel
theorem d_M_init_285 : decode zy_M_init.2.1 285 = .ok (.dup, 1) := by decide +kernel
theorem d_M_init_286 : decode zy_M_init.2.1 286 = .ok (.bipush 28, 2) := by decide +kernel
theorem d_M_init_288 : decode zy_M_init.2.1 288 = .ok (.bipush 116, 2) := by decide +kernel
theorem d_M_init_290 : decode zy_M_init.2.1 290 = .ok (.castore, 1) := by decide +kernel
theorem d_M_init_291 : decode zy_M_init.2.1 291 = .ok (.dup, 1) := by decide +kernel
theorem d_M_init_292 : decode zy_M_init.2.1 292 = .ok (.bipush 29, 2) := by decide +kernel
theorem d_M_init_294 : decode zy_M_init.2.1 294 = .ok (.bipush 97, 2) := by decide +kernel
theorem d_M_init_296 : decode zy_M_init.2.1 296 = .ok (.castore, 1) := by decide +kernel
theorem d_M_init_297 : decode zy_M_init.2.1 297 = .ok (.dup, 1) := by decide +kernel
theorem d_M_init_298 : decode zy_M_init.2.1 298 = .ok (.bipush 30, 2) := by decide +kernel
theorem d_M_init_300 : decode zy_M_init.2.1 300 = .ok (.bipush 117, 2) := by decide +kernel
theorem d_M_init_302 : decode zy_M_init.2.1 302 = .ok (.castore, 1) := by decide +kernel
theorem d_M_init_303 : decode zy_M_init.2.1 303 = .ok (.dup, 1) := by decide +kernel
theorem d_M_init_304 : decode zy_M_init.2.1 304 = .ok (.bipush 31, 2) := by decide +kernel
theorem d_M_init_306 : decode zy_M_init.2.1 306 = .ok (.bipush 103, 2) := by decide +kernel
theorem d_M_init_308 : decode zy_M_init.2.1 308 = .ok (.castore, 1) := by decide +kernel
theorem d_M_init_309 : decode zy_M_init.2.1 309 = .ok (.dup, 1) := by decide +kernel
theorem d_M_init_310 : decode zy_M_init.2.1 310 = .ok (.bipush 32, 2) := by decide +kernel
theorem d_M_init_312 : decode zy_M_init.2.1 312 = .ok (.bipush 104, 2) := by decide +kernel
theorem d_M_init_314 : decode zy_M_init.2.1 314 = .ok (.castore, 1) := by decide +kernel
theorem d_M_init_315 : decode zy_M_init.2.1 315 = .ok (.dup, 1) := by decide +kernel
theorem d_M_init_316 : decode zy_M_init.2.1 316 = .ok (.bipush 33, 2) := by decide +kernel
theorem d_M_init_318 : decode zy_M_init.2.1 318 = .ok (.bipush 116, 2) := by decide +kernel
theorem d_M_init_320 : decode zy_M_init.2.1 320 = .ok (.castore, 1) := by decide +kernel
theorem d_M_init_321 : decode zy_M_init.2.1 321 = .ok (.dup, 1) := by decide +kernel
theorem d_M_init_322 : decode zy_M_init.2.1 322 = .ok (.bipush 34, 2) := by decide +kernel
theorem d_M_init_324 : decode zy_M_init.2.1 324 = .ok (.bipush 32, 2) := by decide +kernel
theorem d_M_init_326 : decode zy_M_init.2.1 326 = .ok (.castore, 1) := by decide +kernel
theorem d_M_init_327 : decode zy_M_init.2.1 327 = .ok (.dup, 1) := by decide +kernel
theorem d_M_init_328 : decode zy_M_init.2.1 328 = .ok (.bipush 35, 2) := by decide +kernel
theorem d_M_init_330 : decode zy_M_init.2.1 330 = .ok (.bipush 119, 2) := by decide +kernel
theorem d_M_init_332 : decode zy_M_init.2.1 332 = .ok (.castore, 1) := by decide +kernel
theorem d_M_init_333 : decode zy_M_init.2.1 333 = .ok (.dup, 1) := by decide +kernel
theorem d_M_init_334 : decode zy_M_init.2.1 334 = .ok (.bipush 36, 2) := by decide +kernel
theorem d_M_init_336 : decode zy_M_init.2.1 336 = .ok (.bipush 101, 2) := by decide +kernel
theorem d_M_init_338 : decode zy_M_init.2.1 338 = .ok (.castore, 1) := by decide +kernel
theorem d_M_init_339 : decode zy_M_init.2.1 339 = .ok (.dup, 1) := by decide +kernel
theorem d_M_init_340 : decode zy_M_init.2.1 340 = .ok (.bipush 37, 2) := by decide +kernel
theorem d_M_init_342 : decode zy_M_init.2.1 342 = .ok (.bipush 108, 2) := by decide +kernel
theorem d_M_init_344 : decode zy_M_init.2.1 344 = .ok (.castore, 1) := by decide +kernel
theorem d_M_init_345 : decode zy_M_init.2.1 345 = .ok (.dup, 1) := by decide +kernel
theorem d_M_init_346 : decode zy_M_init.2.1 346 = .ok (.bipush 38, 2) := by decide +kernel
theorem d_M_init_348 : decode zy_M_init.2.1 348 = .ok (.bipush 108, 2) := by decide +kernel
theorem d_M_init_350 : decode zy_M_init.2.1 350 = .ok (.castore, 1) := by decide +kernel
theorem d_M_init_351 : decode zy_M_init.2.1 351 = .ok (.dup, 1) := by decide +kernel
theorem d_M_init_352 : decode zy_M_init.2.1 352 = .ok (.bipush 39, 2) := by decide +kernel
theorem d_M_init_354 : decode zy_M_init.2.1 354 = .ok (.bipush 32, 2) := by decide +kernel
theorem d_M_init_356 : decode zy_M_init.2.1 356 = .ok (.castore, 1) := by decide +kernel
theorem d_M_init_357 : decode zy_M_init.2.1 357 = .ok (.dup, 1) := by decide +kernel
theorem d_M_init_358 : decode zy_M_init.2.1 358 = .ok (.bipush 40, 2) := by decide +kernel
theorem d_M_init_360 : decode zy_M_init.2.1 360 = .ok (.bipush 99, 2) := by decide +kernel
theorem d_M_init_362 : decode zy_M_init.2.1 362 = .ok (.castore, 1) := by decide +kernel
theorem d_M_init_363 : decode zy_M_init.2.1 363 = .ok (.dup, 1) := by decide +kernel
theorem d_M_init_364 : decode zy_M_init.2.1 364 = .ok (.bipush 41, 2) := by decide +kernel
theorem d_M_init_366 : decode zy_M_init.2.1 366 = .ok (.bipush 111, 2) := by decide +kernel
theorem d_M_init_368 : decode zy_M_init.2.1 368 = .ok (.castore, 1) := by decide +kernel
theorem d_M_init_369 : decode zy_M_init.2.1 369 = .ok (.dup, 1) := by decide +kernel
theorem d_M_init_370 : decode zy_M_init.2.1 370 = .ok (.bipush 42, 2) := by decide +kernel
theorem d_M_init_372 : decode zy_M_init.2.1 372 = .ok (.bipush 115, 2) := by decide +kernel
theorem d_M_init_374 : decode zy_M_init.2.1 374 = .ok (.castore, 1) := by decide +kernel
theorem d_M_init_375 : decode zy_M_init.2.1 375 = .ok (.dup, 1) := by decide +kernel
theorem d_M_init_376 : decode zy_M_init.2.1 376 = .ok (.bipush 43, 2) := by decide +kernel
theorem d_M_init_378 : decode zy_M_init.2.1 378 = .ok (.bipush 116, 2) := by decide +kernel
theorem d_M_init_380 : decode zy_M_init.2.1 380 = .ok (.castore, 1) := by decide +kernel
theorem d_M_init_381 : decode zy_M_init.2.1 381 = .ok (.dup, 1) := by decide +kernel
theorem d_M_init_382 : decode zy_M_init.2.1 382 = .ok (.bipush 44, 2) := by decide +kernel
theorem d_M_init_384 : decode zy_M_init.2.1 384 = .ok (.bipush 32, 2) := by decide +kernel
theorem d_M_init_386 : decode zy_M_init.2.1 386 = .ok (.castore, 1) := by decide +kernel
theorem d_M_init_387 : decode zy_M_init.2.1 387 = .ok (.dup, 1) := by decide +kernel
theorem d_M_init_388 : decode zy_M_init.2.1 388 = .ok (.bipush 45, 2) := by decide +kernel
theorem d_M_init_390 : decode zy_M_init.2.1 390 = .ok (.bipush 112, 2) := by decide +kernel
theorem d_M_init_392 : decode zy_M_init.2.1 392 = .ok (.castore, 1) := by decide +kernel
theorem d_M_init_393 : decode zy_M_init.2.1 393 = .ok (.dup, 1) := by decide +kernel
theorem d_M_init_394 : decode zy_M_init.2.1 394 = .ok (.bipush 46, 2) := by decide +kernel
theorem d_M_init_396 : decode zy_M_init.2.1 396 = .ok (.bipush 97, 2) := by decide +kernel
theorem d_M_init_398 : decode zy_M_init.2.1 398 = .ok (.castore, 1) := by decide +kernel
theorem d_M_init_399 : decode zy_M_init.2.1 399 = .ok (.dup, 1) := by decide +kernel
theorem d_M_init_400 : decode zy_M_init.2.1 400 = .ok (.bipush 47, 2) := by decide +kernel
theorem d_M_init_402 : decode zy_M_init.2.1 402 = .ok (.bipush 121, 2) := by decide +kernel
theorem d_M_init_404 : decode zy_M_init.2.1 404 = .ok (.castore, 1) := by decide +kernel
theorem d_M_init_405 : decode zy_M_init.2.1 405 = .ok (.dup, 1) := by decide +kernel
theorem d_M_init_406 : decode zy_M_init.2.1 406 = .ok (.bipush 48, 2) := by decide +kernel
theorem d_M_init_408 : decode zy_M_init.2.1 408 = .ok (.bipush 32, 2) := by decide +kernel
theorem d_M_init_410 : decode zy_M_init.2.1 410 = .ok (.castore, 1) := by decide +kernel
theorem d_M_init_411 : decode zy_M_init.2.1 411 = .ok (.dup, 1) := by decide +kernel
theorem d_M_init_412 : decode zy_M_init.2.1 412 = .ok (.bipush 49, 2) := by decide +kernel
theorem d_M_init_414 : decode zy_M_init.2.1 414 = .ok (.bipush 111, 2) := by decide +kernel
theorem d_M_init_416 : decode zy_M_init.2.1 416 = .ok (.castore, 1) := by decide +kernel
theorem d_M_init_417 : decode zy_M_init.2.1 417 = .ok (.dup, 1) := by decide +kernel
theorem d_M_init_418 : decode zy_M_init.2.1 418 = .ok (.bipush 50, 2) := by decide +kernel
theorem d_M_init_420 : decode zy_M_init.2.1 420 = .ok (.bipush 114, 2) := by decide +kernel
theorem d_M_init_422 : decode zy_M_init.2.1 422 = .ok (.castore, 1) := by decide +kernel
theorem d_M_init_423 : decode zy_M_init.2.1 423 = .ok (.dup, 1) := by decide +kernel
theorem d_M_init_424 : decode zy_M_init.2.1 424 = .ok (.bipush 51, 2) := by decide +kernel
theorem d_M_init_426 : decode zy_M_init.2.1 426 = .ok (.bipush 32, 2) := by decide +kernel
theorem d_M_init_428 : decode zy_M_init.2.1 428 = .ok (.castore, 1) := by decide +kernel
theorem d_M_init_429 : decode zy_M_init.2.1 429 = .ok (.dup, 1) := by decide +kernel
theorem d_M_init_430 : decode zy_M_init.2.1 430 = .ok (.bipush 52, 2) := by decide +kernel
theorem d_M_init_432 : decode zy_M_init.2.1 432 = .ok (.bipush 97, 2) := by decide +kernel
theorem d_M_init_434 : decode zy_M_init.2.1 434 = .ok (.castore, 1) := by decide +kernel
theorem d_M_init_435 : decode zy_M_init.2.1 435 = .ok (.dup, 1) := by decide +kernel
theorem d_M_init_436 : decode zy_M_init.2.1 436 = .ok (.bipush 53, 2) := by decide +kernel
theorem d_M_init_438 : decode zy_M_init.2.1 438 = .ok (.bipush 110, 2) := by decide +kernel
theorem d_M_init_440 : decode zy_M_init.2.1 440 = .ok (.castore, 1) := by decide +kernel
theorem d_M_init_441 : decode zy_M_init.2.1 441 = .ok (.dup, 1) := by decide +kernel
theorem d_M_init_442 : decode zy_M_init.2.1 442 = .ok (.bipush 54, 2) := by decide +kernel
theorem d_M_init_444 : decode zy_M_init.2.1 444 = .ok (.bipush 100, 2) := by decide +kernel
theorem d_M_init_446 : decode zy_M_init.2.1 446 = .ok (.castore, 1) := by decide +kernel
theorem d_M_init_447 : decode zy_M_init.2.1 447 = .ok (.dup, 1) := by decide +kernel
theorem d_M_init_448 : decode zy_M_init.2.1 448 = .ok (.bipush 55, 2) := by decide +kernel
theorem d_M_init_450 : decode zy_M_init.2.1 450 = .ok (.bipush 32, 2) := by decide +kernel
theorem d_M_init_452 : decode zy_M_init.2.1 452 = .ok (.castore, 1) := by decide +kernel
theorem d_M_init_453 : decode zy_M_init.2.1 453 = .ok (.dup, 1) := by decide +kernel
theorem d_M_init_454 : decode zy_M_init.2.1 454 = .ok (.bipush 56, 2) := by decide +kernel
theorem d_M_init_456 : decode zy_M_init.2.1 456 = .ok (.bipush 110, 2) := by decide +kernel
theorem d_M_init_458 : decode zy_M_init.2.1 458 = .ok (.castore, 1) := by decide +kernel
theorem d_M_init_459 : decode zy_M_init.2.1 459 = .ok (.dup, 1) := by decide +kernel
theorem d_M_init_460 : decode zy_M_init.2.1 460 = .ok (.bipush 57, 2) := by decide +kernel
theorem d_M_init_462 : decode zy_M_init.2.1 462 = .ok (.bipush 111, 2) := by decide +kernel
theorem d_M_init_464 : decode zy_M_init.2.1 464 = .ok (.castore, 1) := by decide +kernel
theorem d_M_init_465 : decode zy_M_init.2.1 465 = .ok (.dup, 1) := by decide +kernel
theorem d_M_init_466 : decode zy_M_init.2.1 466 = .ok (.bipush 58, 2) := by decide +kernel
theorem d_M_init_468 : decode zy_M_init.2.1 468 = .ok (.bipush 116, 2) := by decide +kernel
theorem d_M_init_470 : decode zy_M_init.2.1 470 = .ok (.castore, 1) := by decide +kernel
theorem d_M_init_471 : decode zy_M_init.2.1 471 = .ok (.dup, 1) := by decide +kernel
theorem d_M_init_472 : decode zy_M_init.2.1 472 = .ok (.bipush 59, 2) := by decide +kernel
theorem d_M_init_474 : decode zy_M_init.2.1 474 = .ok (.bipush 32, 2) := by decide +kernel
theorem d_M_init_476 : decode zy_M_init.2.1 476 = .ok (.castore, 1) := by decide +kernel
theorem d_M_init_477 : decode zy_M_init.2.1 477 = .ok (.putfield 57, 3) := by decide +kernel
theorem d_M_init_480 : decode zy_M_init.2.1 480 = .ok (.aload_n 0, 1) := by decide +kernel
theorem d_M_init_481 : decode zy_M_init.2.1 481 = .ok (.sipush 170, 3) := by decide +kernel
theorem d_M_init_484 : decode zy_M_init.2.1 484 = .ok (.newarray .int, 2) := by decide +kernel
theorem d_M_init_486 : decode zy_M_init.2.1 486 = .ok (.putfield 61, 3) := by decide +kernel
theorem d_M_init_489 : decode zy_M_init.2.1 489 = .ok (.aload_n 0, 1) := by decide +kernel
theorem d_M_init_490 : decode zy_M_init.2.1 490 = .ok (.bipush 6, 2) := by decide +kernel
theorem d_M_init_492 : decode zy_M_init.2.1 492 = .ok (.newarray .int, 2) := by decide +kernel
theorem d_M_init_494 : decode zy_M_init.2.1 494 = .ok (.putfield 64, 3) := by decide +kernel
theorem d_M_init_497 : decode zy_M_init.2.1 497 = .ok (.aload_n 0, 1) := by decide +kernel
theorem d_M_init_498 : decode zy_M_init.2.1 498 = .ok (.bipush 7, 2) := by decide +kernel
theorem d_M_init_500 : decode zy_M_init.2.1 500 = .ok (.newarray .int, 2) := by decide +kernel
theorem d_M_init_502 : decode zy_M_init.2.1 502 = .ok (.putfield 67, 3) := by decide +kernel
theorem d_M_init_505 : decode zy_M_init.2.1 505 = .ok (.aload_n 0, 1) := by decide +kernel
theorem d_M_init_506 : decode zy_M_init.2.1 506 = .ok (.bipush 42, 2) := by decide +kernel
theorem d_M_init_508 : decode zy_M_init.2.1 508 = .ok (.newarray .int, 2) := by decide +kernel
theorem d_M_init_510 : decode zy_M_init.2.1 510 = .ok (.putfield 70, 3) := by decide +kernel
theorem d_M_init_513 : decode zy_M_init.2.1 513 = .ok (.aload_n 0, 1) := by decide +kernel
theorem d_M_init_514 : decode zy_M_init.2.1 514 = .ok (.bipush 6, 2) := by decide +kernel
theorem d_M_init_516 : decode zy_M_init.2.1 516 = .ok (.newarray .int, 2) := by decide +kernel
theorem d_M_init_518 : decode zy_M_init.2.1 518 = .ok (.putfield 73, 3) := by decide +kernel
theorem d_M_init_521 : decode zy_M_init.2.1 521 = .ok (.aload_n 0, 1) := by decide +kernel
theorem d_M_init_522 : decode zy_M_init.2.1 522 = .ok (.bipush 6, 2) := by decide +kernel
theorem d_M_init_524 : decode zy_M_init.2.1 524 = .ok (.newarray .int, 2) := by decide +kernel
theorem d_M_init_526 : decode zy_M_init.2.1 526 = .ok (.putfield 76, 3) := by decide +kernel
theorem d_M_init_529 : decode zy_M_init.2.1 529 = .ok (.aload_n 0, 1) := by decide +kernel
theorem d_M_init_530 : decode zy_M_init.2.1 530 = .ok (.bipush 42, 2) := by decide +kernel
theorem d_M_init_532 : decode zy_M_init.2.1 532 = .ok (.newarray .int, 2) := by decide +kernel
theorem d_M_init_534 : decode zy_M_init.2.1 534 = .ok (.putfield 79, 3) := by decide +kernel
theorem d_M_init_537 : decode zy_M_init.2.1 537 = .ok (.aload_n 0, 1) := by decide +kernel
theorem d_M_init_538 : decode zy_M_init.2.1 538 = .ok (.bipush 42, 2) := by decide +kernel
theorem d_M_init_540 : decode zy_M_init.2.1 540 = .ok (.newarray .boolean, 2) := by decide +kernel
theorem d_M_init_542 : decode zy_M_init.2.1 542 = .ok (.putfield 82, 3) := by decide +kernel
theorem d_M_init_545 : decode zy_M_init.2.1 545 = .ok (.aload_n 0, 1) := by decide +kernel
theorem d_M_init_546 : decode zy_M_init.2.1 546 = .ok (.bipush 42, 2) := by decide +kernel
theorem d_M_init_548 : decode zy_M_init.2.1 548 = .ok (.newarray .boolean, 2) := by decide +kernel
theorem d_M_init_550 : decode zy_M_init.2.1 550 = .ok (.putfield 85, 3) := by decide +kernel
theorem d_M_init_553 : decode zy_M_init.2.1 553 = .ok (.aload_n 0, 1) := by decide +kernel
theorem d_M_init_554 : decode zy_M_init.2.1 554 = .ok (.bipush 7, 2) := by decide +kernel
theorem d_M_init_556 : decode zy_M_init.2.1 556 = .ok (.newarray .int, 2) := by decide +kernel
theorem d_M_init_558 : decode zy_M_init.2.1 558 = .ok (.putfield 88, 3) := by decide +kernel
theorem d_M_init_561 : decode zy_M_init.2.1 561 = .ok (.aload_n 0, 1) := by decide +kernel
theorem d_M_init_562 : decode zy_M_init.2.1 562 = .ok (.iconst 4, 1) := by decide +kernel
theorem d_M_init_563 : decode zy_M_init.2.1 563 = .ok (.newarray .int, 2) := by decide +kernel
theorem d_M_init_565 : decode zy_M_init.2.1 565 = .ok (.putfield 91, 3) := by decide +kernel
theorem d_M_init_568 : decode zy_M_init.2.1 568 = .ok (.aload_n 0, 1) := by decide +kernel
theorem d_M_init_569 : decode zy_M_init.2.1 569 = .ok (.iconst 4, 1) := by decide +kernel
theorem d_M_init_570 : decode zy_M_init.2.1 570 = .ok (.newarray .int, 2) := by decide +kernel
theorem d_M_init_572 : decode zy_M_init.2.1 572 = .ok (.putfield 94, 3) := by decide +kernel
theorem d_M_init_575 : decode zy_M_init.2.1 575 = .ok (.aload_n 0, 1) := by decide +kernel
theorem d_M_init_576 : decode zy_M_init.2.1 576 = .ok (.sipush 160, 3) := by decide +kernel
theorem d_M_init_579 : decode zy_M_init.2.1 579 = .ok (.newarray .int, 2) := by decide +kernel
theorem d_M_init_581 : decode zy_M_init.2.1 581 = .ok (.putfield 97, 3) := by decide +kernel
theorem d_M_init_584 : decode zy_M_init.2.1 584 = .ok (.aload_n 0, 1) := by decide +kernel
theorem d_M_init_585 : decode zy_M_init.2.1 585 = .ok (.bipush 40, 2) := by decide +kernel
theorem d_M_init_587 : decode zy_M_init.2.1 587 = .ok (.newarray .int, 2) := by decide +kernel
theorem d_M_init_589 : decode zy_M_init.2.1 589 = .ok (.putfield 100, 3) := by decide +kernel
theorem d_M_init_592 : decode zy_M_init.2.1 592 = .ok (.bipush 17, 2) := by decide +kernel
theorem d_M_init_594 : decode zy_M_init.2.1 594 = .ok (.newarray .int, 2) := by decide +kernel
theorem d_M_init_596 : decode zy_M_init.2.1 596 = .ok (.dup, 1) := by decide +kernel
theorem d_M_init_597 : decode zy_M_init.2.1 597 = .ok (.iconst 0, 1) := by decide +kernel
theorem d_M_init_598 : decode zy_M_init.2.1 598 = .ok (.iconst 5, 1) := by decide +kernel
theorem d_M_init_599 : decode zy_M_init.2.1 599 = .ok (.iastore, 1) := by decide +kernel
theorem d_M_init_600 : decode zy_M_init.2.1 600 = .ok (.dup, 1) := by decide +kernel
theorem d_M_init_601 : decode zy_M_init.2.1 601 = .ok (.iconst 1, 1) := by decide +kernel
theorem d_M_init_602 : decode zy_M_init.2.1 602 = .ok (.iconst (-1), 1) := by decide +kernel
theorem d_M_init_603 : decode zy_M_init.2.1 603 = .ok (.iastore, 1) := by decide +kernel
theorem d_M_init_604 : decode zy_M_init.2.1 604 = .ok (.dup, 1) := by decide +kernel
theorem d_M_init_605 : decode zy_M_init.2.1 605 = .ok (.iconst 2, 1) := by decide +kernel
theorem d_M_init_606 : decode zy_M_init.2.1 606 = .ok (.iconst 5, 1) := by decide +kernel
theorem d_M_init_607 : decode zy_M_init.2.1 607 = .ok (.iastore, 1) := by decide +kernel
theorem d_M_init_608 : decode zy_M_init.2.1 608 = .ok (.dup, 1) := by decide +kernel
theorem d_M_init_609 : decode zy_M_init.2.1 609 = .ok (.iconst 3, 1) := by decide +kernel
theorem d_M_init_610 : decode zy_M_init.2.1 610 = .ok (.sipush (-142), 3) := by decide +kernel
theorem d_M_init_613 : decode zy_M_init.2.1 613 = .ok (.iastore, 1) := by decide +kernel
theorem d_M_init_614 : decode zy_M_init.2.1 614 = .ok (.dup, 1) := by decide +kernel
theorem d_M_init_615 : decode zy_M_init.2.1 615 = .ok (.iconst 4, 1) := by decide +kernel
theorem d_M_init_616 : decode zy_M_init.2.1 616 = .ok (.sipush (-143), 3) := by decide +kernel
theorem d_M_init_619 : decode zy_M_init.2.1 619 = .ok (.iastore, 1) := by decide +kernel
theorem d_M_init_620 : decode zy_M_init.2.1 620 = .ok (.dup, 1) := by decide +kernel
theorem d_M_init_621 : decode zy_M_init.2.1 621 = .ok (.iconst 5, 1) := by decide +kernel
theorem d_M_init_622 : decode zy_M_init.2.1 622 = .ok (.bipush (-3), 2) := by decide +kernel
theorem d_M_init_624 : decode zy_M_init.2.1 624 = .ok (.iastore, 1) := by decide +kernel
theorem d_M_init_625 : decode zy_M_init.2.1 625 = .ok (.dup, 1) := by decide +kernel
theorem d_M_init_626 : decode zy_M_init.2.1 626 = .ok (.bipush 6, 2) := by decide +kernel
theorem d_M_init_628 : decode zy_M_init.2.1 628 = .ok (.iconst 1, 1) := by decide +kernel
theorem d_M_init_629 : decode zy_M_init.2.1 629 = .ok (.iastore, 1) := by decide +kernel
theorem d_M_init_630 : decode zy_M_init.2.1 630 = .ok (.dup, 1) := by decide +kernel
theorem d_M_init_631 : decode zy_M_init.2.1 631 = .ok (.bipush 7, 2) := by decide +kernel
theorem d_M_init_633 : decode zy_M_init.2.1 633 = .ok (.iconst (-1), 1) := by decide +kernel
theorem d_M_init_634 : decode zy_M_init.2.1 634 = .ok (.iastore, 1) := by decide +kernel
theorem d_M_init_635 : decode zy_M_init.2.1 635 = .ok (.dup, 1) := by decide +kernel
theorem d_M_init_636 : decode zy_M_init.2.1 636 = .ok (.bipush 8, 2) := by decide +kernel
theorem d_M_init_638 : decode zy_M_init.2.1 638 = .ok (.sipush (-145), 3) := by decide +kernel
theorem d_M_init_641 : decode zy_M_init.2.1 641 = .ok (.iastore, 1) := by decide +kernel
theorem d_M_init_642 : decode zy_M_init.2.1 642 = .ok (.dup, 1) := by decide +kernel
theorem d_M_init_643 : decode zy_M_init.2.1 643 = .ok (.bipush 9, 2) := by decide +kernel
theorem d_M_init_645 : decode zy_M_init.2.1 645 = .ok (.sipush (-142), 3) := by decide +kernel
theorem d_M_init_648 : decode zy_M_init.2.1 648 = .ok (.iastore, 1) := by decide +kernel
theorem d_M_init_649 : decode zy_M_init.2.1 649 = .ok (.dup, 1) := by decide +kernel
theorem d_M_init_650 : decode zy_M_init.2.1 650 = .ok (.bipush 10, 2) := by decide +kernel
theorem d_M_init_652 : decode zy_M_init.2.1 652 = .ok (.sipush (-145), 3) := by decide +kernel
theorem d_M_init_655 : decode zy_M_init.2.1 655 = .ok (.iastore, 1) := by decide +kernel
theorem d_M_init_656 : decode zy_M_init.2.1 656 = .ok (.dup, 1) := by decide +kernel
theorem d_M_init_657 : decode zy_M_init.2.1 657 = .ok (.bipush 11, 2) := by decide +kernel
theorem d_M_init_659 : decode zy_M_init.2.1 659 = .ok (.iconst 3, 1) := by decide +kernel
theorem d_M_init_660 : decode zy_M_init.2.1 660 = .ok (.iastore, 1) := by decide +kernel
theorem d_M_init_661 : decode zy_M_init.2.1 661 = .ok (.dup, 1) := by decide +kernel
theorem d_M_init_662 : decode zy_M_init.2.1 662 = .ok (.bipush 12, 2) := by decide +kernel
theorem d_M_init_664 : decode zy_M_init.2.1 664 = .ok (.bipush (-5), 2) := by decide +kernel
theorem d_M_init_666 : decode zy_M_init.2.1 666 = .ok (.iastore, 1) := by decide +kernel
theorem d_M_init_667 : decode zy_M_init.2.1 667 = .ok (.dup, 1) := by decide +kernel
theorem d_M_init_668 : decode zy_M_init.2.1 668 = .ok (.bipush 13, 2) := by decide +kernel
theorem d_M_init_670 : decode zy_M_init.2.1 670 = .ok (.sipush (-143), 3) := by decide +kernel
theorem d_M_init_673 : decode zy_M_init.2.1 673 = .ok (.iastore, 1) := by decide +kernel
theorem d_M_init_674 : decode zy_M_init.2.1 674 = .ok (.dup, 1) := by decide +kernel
theorem d_M_init_675 : decode zy_M_init.2.1 675 = .ok (.bipush 14, 2) := by decide +kernel
theorem d_M_init_677 : decode zy_M_init.2.1 677 = .ok (.bipush (-2), 2) := by decide +kernel
theorem d_M_init_679 : decode zy_M_init.2.1 679 = .ok (.iastore, 1) := by decide +kernel
theorem d_M_init_680 : decode zy_M_init.2.1 680 = .ok (.dup, 1) := by decide +kernel
theorem d_M_init_681 : decode zy_M_init.2.1 681 = .ok (.bipush 15, 2) := by decide +kernel
theorem d_M_init_683 : decode zy_M_init.2.1 683 = .ok (.sipush (-145), 3) := by decide +kernel
theorem d_M_init_686 : decode zy_M_init.2.1 686 = .ok (.iastore, 1) := by decide +kernel
theorem d_M_init_687 : decode zy_M_init.2.1 687 = .ok (.dup, 1) := by decide +kernel
theorem d_M_init_688 : decode zy_M_init.2.1 688 = .ok (.bipush 16, 2) := by decide +kernel
theorem d_M_init_690 : decode zy_M_init.2.1 690 = .ok (.bipush 10, 2) := by decide +kernel
theorem d_M_init_692 : decode zy_M_init.2.1 692 = .ok (.iastore, 1) := by decide +kernel
theorem d_M_init_693 : decode zy_M_init.2.1 693 = .ok (.astore_n 1, 1) := by decide +kernel
theorem d_M_init_694 : decode zy_M_init.2.1 694 = .ok (.iconst 0, 1) := by decide +kernel
theorem d_M_init_695 : decode zy_M_init.2.1 695 = .ok (.istore_n 2, 1) := by decide +kernel
theorem d_M_init_696 : decode zy_M_init.2.1 696 = .ok (.iload_n 2, 1) := by decide +kernel
theorem d_M_init_697 : decode zy_M_init.2.1 697 = .ok (.aload_n 1, 1) := by decide +kernel
theorem d_M_init_698 : decode zy_M_init.2.1 698 = .ok (.arraylength, 1) := by decide +kernel
theorem d_M_init_699 : decode zy_M_init.2.1 699 = .ok (.if_icmp .ge (18), 3) := by decide +kernel
theorem d_M_init_702 : decode zy_M_init.2.1 702 = .ok (.aload_n 0, 1) := by decide +kernel
theorem d_M_init_703 : decode zy_M_init.2.1 703 = .ok (.getfield 48, 3) := by decide +kernel
theorem d_M_init_706 : decode zy_M_init.2.1 706 = .ok (.iload_n 2, 1) := by decide +kernel
theorem d_M_init_707 : decode zy_M_init.2.1 707 = .ok (.aload_n 1, 1) := by decide +kernel
theorem d_M_init_708 : decode zy_M_init.2.1 708 = .ok (.iload_n 2, 1) := by decide +kernel
theorem d_M_init_709 : decode zy_M_init.2.1 709 = .ok (.iaload, 1) := by decide +kernel
theorem d_M_init_710 : decode zy_M_init.2.1 710 = .ok (.iastore, 1) := by decide +kernel
theorem d_M_init_711 : decode zy_M_init.2.1 711 = .ok (.iinc 2 1, 3) := by decide +kernel
theorem d_M_init_714 : decode zy_M_init.2.1 714 = .ok (.goto (-18), 3) := by decide +kernel
theorem d_M_init_717 : decode zy_M_init.2.1 717 = .ok (.aload_n 0, 1) := by decide +kernel
theorem d_M_init_718 : decode zy_M_init.2.1 718 = .ok (.getfield 51, 3) := by decide +kernel
theorem d_M_init_721 : decode zy_M_init.2.1 721 = .ok (.iconst 0, 1) := by decide +kernel
theorem d_M_init_722 : decode zy_M_init.2.1 722 = .ok (.iconst 0, 1) := by decide +kernel
theorem d_M_init_723 : decode zy_M_init.2.1 723 = .ok (.iastore, 1) := by decide +kernel
theorem d_M_init_724 : decode zy_M_init.2.1 724 = .ok (.aload_n 0, 1) := by decide +kernel
theorem d_M_init_725 : decode zy_M_init.2.1 725 = .ok (.getfield 54, 3) := by decide +kernel
theorem d_M_init_728 : decode zy_M_init.2.1 728 = .ok (.iconst 0, 1) := by decide +kernel
theorem d_M_init_729 : decode zy_M_init.2.1 729 = .ok (.bipush 11, 2) := by decide +kernel
theorem d_M_init_731 : decode zy_M_init.2.1 731 = .ok (.iastore, 1) := by decide +kernel
theorem d_M_init_732 : decode zy_M_init.2.1 732 = .ok (.aload_n 0, 1) := by decide +kernel
theorem d_M_init_733 : decode zy_M_init.2.1 733 = .ok (.getfield 51, 3) := by decide +kernel
theorem d_M_init_736 : decode zy_M_init.2.1 736 = .ok (.iconst 1, 1) := by decide +kernel
theorem d_M_init_737 : decode zy_M_init.2.1 737 = .ok (.bipush 11, 2) := by decide +kernel
theorem d_M_init_739 : decode zy_M_init.2.1 739 = .ok (.iastore, 1) := by decide +kernel
theorem d_M_init_740 : decode zy_M_init.2.1 740 = .ok (.aload_n 0, 1) := by decide +kernel
theorem d_M_init_741 : decode zy_M_init.2.1 741 = .ok (.getfield 54, 3) := by decide +kernel
theorem d_M_init_744 : decode zy_M_init.2.1 744 = .ok (.iconst 1, 1) := by decide +kernel
theorem d_M_init_745 : decode zy_M_init.2.1 745 = .ok (.bipush 16, 2) := by decide +kernel
theorem d_M_init_747 : decode zy_M_init.2.1 747 = .ok (.iastore, 1) := by decide +kernel
theorem d_M_init_748 : decode zy_M_init.2.1 748 = .ok (.aload_n 0, 1) := by decide +kernel
theorem d_M_init_749 : decode zy_M_init.2.1 749 = .ok (.getfield 51, 3) := by decide +kernel
theorem d_M_init_752 : decode zy_M_init.2.1 752 = .ok (.iconst 2, 1) := by decide +kernel
theorem d_M_init_753 : decode zy_M_init.2.1 753 = .ok (.bipush 16, 2) := by decide +kernel
theorem d_M_init_755 : decode zy_M_init.2.1 755 = .ok (.iastore, 1) := by decide +kernel
theorem d_M_init_756 : decode zy_M_init.2.1 756 = .ok (.aload_n 0, 1) := by decide +kernel
theorem d_M_init_757 : decode zy_M_init.2.1 757 = .ok (.getfield 54, 3) := by decide +kernel
theorem d_M_init_760 : decode zy_M_init.2.1 760 = .ok (.iconst 2, 1) := by decide +kernel
theorem d_M_init_761 : decode zy_M_init.2.1 761 = .ok (.bipush 17, 2) := by decide +kernel
theorem d_M_init_763 : decode zy_M_init.2.1 763 = .ok (.iastore, 1) := by decide +kernel
theorem d_M_init_764 : decode zy_M_init.2.1 764 = .ok (.aload_n 0, 1) := by decide +kernel
theorem d_M_init_765 : decode zy_M_init.2.1 765 = .ok (.iconst 1, 1) := by decide +kernel
theorem d_M_init_766 : decode zy_M_init.2.1 766 = .ok (.putfield 103, 3) := by decide +kernel
theorem d_M_init_769 : decode zy_M_init.2.1 769 = .ok (.iconst 0, 1) := by decide +kernel
theorem d_M_init_770 : decode zy_M_init.2.1 770 = .ok (.istore_n 2, 1) := by decide +kernel
theorem d_M_init_771 : decode zy_M_init.2.1 771 = .ok (.iload_n 2, 1) := by decide +kernel
theorem d_M_init_772 : decode zy_M_init.2.1 772 = .ok (.iconst 4, 1) := by decide +kernel
theorem d_M_init_773 : decode zy_M_init.2.1 773 = .ok (.if_icmp .ge (16), 3) := by decide +kernel
theorem d_M_init_776 : decode zy_M_init.2.1 776 = .ok (.aload_n 0, 1) := by decide +kernel
theorem d_M_init_777 : decode zy_M_init.2.1 777 = .ok (.getfield 91, 3) := by decide +kernel
theorem d_M_init_780 : decode zy_M_init.2.1 780 = .ok (.iload_n 2, 1) := by decide +kernel
theorem d_M_init_781 : decode zy_M_init.2.1 781 = .ok (.iconst (-1), 1) := by decide +kernel
theorem d_M_init_782 : decode zy_M_init.2.1 782 = .ok (.iastore, 1) := by decide +kernel
theorem d_M_init_783 : decode zy_M_init.2.1 783 = .ok (.iinc 2 1, 3) := by decide +kernel
theorem d_M_init_786 : decode zy_M_init.2.1 786 = .ok (.goto (-15), 3) := by decide +kernel
theorem d_M_init_789 : decode zy_M_init.2.1 789 = .ok (.return_, 1) := by decide +kernel
