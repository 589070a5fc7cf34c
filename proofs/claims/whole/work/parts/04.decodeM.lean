theorem dX6_init_0 : decode cX6_init 0 = .ok (.aload_n 0, 1) := by decide +kernel
theorem dX6_init_1 : decode cX6_init 1 = .ok (.invokespecial 1, 3) := by decide +kernel
theorem dX6_init_4 : decode cX6_init 4 = .ok (.aload_n 0, 1) := by decide +kernel
theorem dX6_init_5 : decode cX6_init 5 = .ok (.sipush 360, 3) := by decide +kernel
theorem dX6_init_8 : decode cX6_init 8 = .ok (.newarray .int, 2) := by decide +kernel
theorem dX6_init_10 : decode cX6_init 10 = .ok (.putfield 7, 3) := by decide +kernel
theorem dX6_init_13 : decode cX6_init 13 = .ok (.aload_n 0, 1) := by decide +kernel
theorem dX6_init_14 : decode cX6_init 14 = .ok (.iconst 4, 1) := by decide +kernel
theorem dX6_init_15 : decode cX6_init 15 = .ok (.newarray .int, 2) := by decide +kernel
theorem dX6_init_17 : decode cX6_init 17 = .ok (.dup, 1) := by decide +kernel
theorem dX6_init_18 : decode cX6_init 18 = .ok (.iconst 0, 1) := by decide +kernel
theorem dX6_init_19 : decode cX6_init 19 = .ok (.iconst 1, 1) := by decide +kernel
theorem dX6_init_20 : decode cX6_init 20 = .ok (.iastore, 1) := by decide +kernel
theorem dX6_init_21 : decode cX6_init 21 = .ok (.dup, 1) := by decide +kernel
theorem dX6_init_22 : decode cX6_init 22 = .ok (.iconst 1, 1) := by decide +kernel
theorem dX6_init_23 : decode cX6_init 23 = .ok (.iconst 0, 1) := by decide +kernel
theorem dX6_init_24 : decode cX6_init 24 = .ok (.iastore, 1) := by decide +kernel
theorem dX6_init_25 : decode cX6_init 25 = .ok (.dup, 1) := by decide +kernel
theorem dX6_init_26 : decode cX6_init 26 = .ok (.iconst 2, 1) := by decide +kernel
theorem dX6_init_27 : decode cX6_init 27 = .ok (.iconst 2, 1) := by decide +kernel
theorem dX6_init_28 : decode cX6_init 28 = .ok (.iastore, 1) := by decide +kernel
theorem dX6_init_29 : decode cX6_init 29 = .ok (.dup, 1) := by decide +kernel
theorem dX6_init_30 : decode cX6_init 30 = .ok (.iconst 3, 1) := by decide +kernel
theorem dX6_init_31 : decode cX6_init 31 = .ok (.iconst 3, 1) := by decide +kernel
theorem dX6_init_32 : decode cX6_init 32 = .ok (.iastore, 1) := by decide +kernel
theorem dX6_init_33 : decode cX6_init 33 = .ok (.putfield 13, 3) := by decide +kernel
theorem dX6_init_36 : decode cX6_init 36 = .ok (.aload_n 0, 1) := by decide +kernel
theorem dX6_init_37 : decode cX6_init 37 = .ok (.bipush 72, 2) := by decide +kernel
theorem dX6_init_39 : decode cX6_init 39 = .ok (.newarray .int, 2) := by decide +kernel
theorem dX6_init_41 : decode cX6_init 41 = .ok (.putfield 16, 3) := by decide +kernel
theorem dX6_init_44 : decode cX6_init 44 = .ok (.aload_n 0, 1) := by decide +kernel
theorem dX6_init_45 : decode cX6_init 45 = .ok (.sipush 160, 3) := by decide +kernel
theorem dX6_init_48 : decode cX6_init 48 = .ok (.newarray .int, 2) := by decide +kernel
theorem dX6_init_50 : decode cX6_init 50 = .ok (.putfield 19, 3) := by decide +kernel
theorem dX6_init_53 : decode cX6_init 53 = .ok (.aload_n 0, 1) := by decide +kernel
theorem dX6_init_54 : decode cX6_init 54 = .ok (.bipush 9, 2) := by decide +kernel
theorem dX6_init_56 : decode cX6_init 56 = .ok (.newarray .int, 2) := by decide +kernel
theorem dX6_init_58 : decode cX6_init 58 = .ok (.dup, 1) := by decide +kernel
theorem dX6_init_59 : decode cX6_init 59 = .ok (.iconst 0, 1) := by decide +kernel
theorem dX6_init_60 : decode cX6_init 60 = .ok (.iconst 0, 1) := by decide +kernel
theorem dX6_init_61 : decode cX6_init 61 = .ok (.iastore, 1) := by decide +kernel
theorem dX6_init_62 : decode cX6_init 62 = .ok (.dup, 1) := by decide +kernel
theorem dX6_init_63 : decode cX6_init 63 = .ok (.iconst 1, 1) := by decide +kernel
theorem dX6_init_64 : decode cX6_init 64 = .ok (.iconst 3, 1) := by decide +kernel
theorem dX6_init_65 : decode cX6_init 65 = .ok (.iastore, 1) := by decide +kernel
theorem dX6_init_66 : decode cX6_init 66 = .ok (.dup, 1) := by decide +kernel
theorem dX6_init_67 : decode cX6_init 67 = .ok (.iconst 2, 1) := by decide +kernel
theorem dX6_init_68 : decode cX6_init 68 = .ok (.bipush 9, 2) := by decide +kernel
theorem dX6_init_70 : decode cX6_init 70 = .ok (.iastore, 1) := by decide +kernel
theorem dX6_init_71 : decode cX6_init 71 = .ok (.dup, 1) := by decide +kernel
theorem dX6_init_72 : decode cX6_init 72 = .ok (.iconst 3, 1) := by decide +kernel
theorem dX6_init_73 : decode cX6_init 73 = .ok (.bipush 14, 2) := by decide +kernel
theorem dX6_init_75 : decode cX6_init 75 = .ok (.iastore, 1) := by decide +kernel
theorem dX6_init_76 : decode cX6_init 76 = .ok (.dup, 1) := by decide +kernel
theorem dX6_init_77 : decode cX6_init 77 = .ok (.iconst 4, 1) := by decide +kernel
theorem dX6_init_78 : decode cX6_init 78 = .ok (.bipush 18, 2) := by decide +kernel
theorem dX6_init_80 : decode cX6_init 80 = .ok (.iastore, 1) := by decide +kernel
theorem dX6_init_81 : decode cX6_init 81 = .ok (.dup, 1) := by decide +kernel
theorem dX6_init_82 : decode cX6_init 82 = .ok (.iconst 5, 1) := by decide +kernel
theorem dX6_init_83 : decode cX6_init 83 = .ok (.bipush 22, 2) := by decide +kernel
theorem dX6_init_85 : decode cX6_init 85 = .ok (.iastore, 1) := by decide +kernel
theorem dX6_init_86 : decode cX6_init 86 = .ok (.dup, 1) := by decide +kernel
theorem dX6_init_87 : decode cX6_init 87 = .ok (.bipush 6, 2) := by decide +kernel
theorem dX6_init_89 : decode cX6_init 89 = .ok (.bipush 29, 2) := by decide +kernel
theorem dX6_init_91 : decode cX6_init 91 = .ok (.iastore, 1) := by decide +kernel
theorem dX6_init_92 : decode cX6_init 92 = .ok (.dup, 1) := by decide +kernel
theorem dX6_init_93 : decode cX6_init 93 = .ok (.bipush 7, 2) := by decide +kernel
theorem dX6_init_95 : decode cX6_init 95 = .ok (.bipush 33, 2) := by decide +kernel
theorem dX6_init_97 : decode cX6_init 97 = .ok (.iastore, 1) := by decide +kernel
theorem dX6_init_98 : decode cX6_init 98 = .ok (.dup, 1) := by decide +kernel
theorem dX6_init_99 : decode cX6_init 99 = .ok (.bipush 8, 2) := by decide +kernel
theorem dX6_init_101 : decode cX6_init 101 = .ok (.bipush 38, 2) := by decide +kernel
theorem dX6_init_103 : decode cX6_init 103 = .ok (.iastore, 1) := by decide +kernel
theorem dX6_init_104 : decode cX6_init 104 = .ok (.putfield 22, 3) := by decide +kernel
theorem dX6_init_107 : decode cX6_init 107 = .ok (.aload_n 0, 1) := by decide +kernel
theorem dX6_init_108 : decode cX6_init 108 = .ok (.bipush 38, 2) := by decide +kernel
theorem dX6_init_110 : decode cX6_init 110 = .ok (.newarray .int, 2) := by decide +kernel
theorem dX6_init_112 : decode cX6_init 112 = .ok (.dup, 1) := by decide +kernel
theorem dX6_init_113 : decode cX6_init 113 = .ok (.iconst 0, 1) := by decide +kernel
theorem dX6_init_114 : decode cX6_init 114 = .ok (.bipush 116, 2) := by decide +kernel
theorem dX6_init_116 : decode cX6_init 116 = .ok (.iastore, 1) := by decide +kernel
theorem dX6_init_117 : decode cX6_init 117 = .ok (.dup, 1) := by decide +kernel
theorem dX6_init_118 : decode cX6_init 118 = .ok (.iconst 1, 1) := by decide +kernel
theorem dX6_init_119 : decode cX6_init 119 = .ok (.bipush 117, 2) := by decide +kernel
theorem dX6_init_121 : decode cX6_init 121 = .ok (.iastore, 1) := by decide +kernel
theorem dX6_init_122 : decode cX6_init 122 = .ok (.dup, 1) := by decide +kernel
theorem dX6_init_123 : decode cX6_init 123 = .ok (.iconst 2, 1) := by decide +kernel
theorem dX6_init_124 : decode cX6_init 124 = .ok (.bipush 98, 2) := by decide +kernel
theorem dX6_init_126 : decode cX6_init 126 = .ok (.iastore, 1) := by decide +kernel
theorem dX6_init_127 : decode cX6_init 127 = .ok (.dup, 1) := by decide +kernel
theorem dX6_init_128 : decode cX6_init 128 = .ok (.iconst 3, 1) := by decide +kernel
theorem dX6_init_129 : decode cX6_init 129 = .ok (.bipush 98, 2) := by decide +kernel
theorem dX6_init_131 : decode cX6_init 131 = .ok (.iastore, 1) := by decide +kernel
theorem dX6_init_132 : decode cX6_init 132 = .ok (.dup, 1) := by decide +kernel
theorem dX6_init_133 : decode cX6_init 133 = .ok (.iconst 4, 1) := by decide +kernel
theorem dX6_init_134 : decode cX6_init 134 = .ok (.bipush 111, 2) := by decide +kernel
theorem dX6_init_136 : decode cX6_init 136 = .ok (.iastore, 1) := by decide +kernel
theorem dX6_init_137 : decode cX6_init 137 = .ok (.dup, 1) := by decide +kernel
theorem dX6_init_138 : decode cX6_init 138 = .ok (.iconst 5, 1) := by decide +kernel
theorem dX6_init_139 : decode cX6_init 139 = .ok (.bipush 116, 2) := by decide +kernel
theorem dX6_init_141 : decode cX6_init 141 = .ok (.iastore, 1) := by decide +kernel
theorem dX6_init_142 : decode cX6_init 142 = .ok (.dup, 1) := by decide +kernel
theorem dX6_init_143 : decode cX6_init 143 = .ok (.bipush 6, 2) := by decide +kernel
theorem dX6_init_145 : decode cX6_init 145 = .ok (.bipush 116, 2) := by decide +kernel
theorem dX6_init_147 : decode cX6_init 147 = .ok (.iastore, 1) := by decide +kernel
theorem dX6_init_148 : decode cX6_init 148 = .ok (.dup, 1) := by decide +kernel
theorem dX6_init_149 : decode cX6_init 149 = .ok (.bipush 7, 2) := by decide +kernel
theorem dX6_init_151 : decode cX6_init 151 = .ok (.bipush 108, 2) := by decide +kernel
theorem dX6_init_153 : decode cX6_init 153 = .ok (.iastore, 1) := by decide +kernel
theorem dX6_init_154 : decode cX6_init 154 = .ok (.dup, 1) := by decide +kernel
theorem dX6_init_155 : decode cX6_init 155 = .ok (.bipush 8, 2) := by decide +kernel
theorem dX6_init_157 : decode cX6_init 157 = .ok (.bipush 101, 2) := by decide +kernel
theorem dX6_init_159 : decode cX6_init 159 = .ok (.iastore, 1) := by decide +kernel
theorem dX6_init_160 : decode cX6_init 160 = .ok (.dup, 1) := by decide +kernel
theorem dX6_init_161 : decode cX6_init 161 = .ok (.bipush 9, 2) := by decide +kernel
theorem dX6_init_163 : decode cX6_init 163 = .ok (.bipush 112, 2) := by decide +kernel
theorem dX6_init_165 : decode cX6_init 165 = .ok (.iastore, 1) := by decide +kernel
theorem dX6_init_166 : decode cX6_init 166 = .ok (.dup, 1) := by decide +kernel
theorem dX6_init_167 : decode cX6_init 167 = .ok (.bipush 10, 2) := by decide +kernel
theorem dX6_init_169 : decode cX6_init 169 = .ok (.bipush 105, 2) := by decide +kernel
theorem dX6_init_171 : decode cX6_init 171 = .ok (.iastore, 1) := by decide +kernel
theorem dX6_init_172 : decode cX6_init 172 = .ok (.dup, 1) := by decide +kernel
theorem dX6_init_173 : decode cX6_init 173 = .ok (.bipush 11, 2) := by decide +kernel
theorem dX6_init_175 : decode cX6_init 175 = .ok (.bipush 97, 2) := by decide +kernel
theorem dX6_init_177 : decode cX6_init 177 = .ok (.iastore, 1) := by decide +kernel
theorem dX6_init_178 : decode cX6_init 178 = .ok (.dup, 1) := by decide +kernel
theorem dX6_init_179 : decode cX6_init 179 = .ok (.bipush 12, 2) := by decide +kernel
theorem dX6_init_181 : decode cX6_init 181 = .ok (.bipush 110, 2) := by decide +kernel
theorem dX6_init_183 : decode cX6_init 183 = .ok (.iastore, 1) := by decide +kernel
theorem dX6_init_184 : decode cX6_init 184 = .ok (.dup, 1) := by decide +kernel
theorem dX6_init_185 : decode cX6_init 185 = .ok (.bipush 13, 2) := by decide +kernel
theorem dX6_init_187 : decode cX6_init 187 = .ok (.bipush 111, 2) := by decide +kernel
theorem dX6_init_189 : decode cX6_init 189 = .ok (.iastore, 1) := by decide +kernel
theorem dX6_init_190 : decode cX6_init 190 = .ok (.dup, 1) := by decide +kernel
theorem dX6_init_191 : decode cX6_init 191 = .ok (.bipush 14, 2) := by decide +kernel
theorem dX6_init_193 : decode cX6_init 193 = .ok (.bipush 99, 2) := by decide +kernel
theorem dX6_init_195 : decode cX6_init 195 = .ok (.iastore, 1) := by decide +kernel
theorem dX6_init_196 : decode cX6_init 196 = .ok (.dup, 1) := by decide +kernel
theorem dX6_init_197 : decode cX6_init 197 = .ok (.bipush 15, 2) := by decide +kernel
theorem dX6_init_199 : decode cX6_init 199 = .ok (.bipush 111, 2) := by decide +kernel
theorem dX6_init_201 : decode cX6_init 201 = .ok (.iastore, 1) := by decide +kernel
theorem dX6_init_202 : decode cX6_init 202 = .ok (.dup, 1) := by decide +kernel
theorem dX6_init_203 : decode cX6_init 203 = .ok (.bipush 16, 2) := by decide +kernel
theorem dX6_init_205 : decode cX6_init 205 = .ok (.bipush 111, 2) := by decide +kernel
theorem dX6_init_207 : decode cX6_init 207 = .ok (.iastore, 1) := by decide +kernel
theorem dX6_init_208 : decode cX6_init 208 = .ok (.dup, 1) := by decide +kernel
theorem dX6_init_209 : decode cX6_init 209 = .ok (.bipush 17, 2) := by decide +kernel
theorem dX6_init_211 : decode cX6_init 211 = .ok (.bipush 112, 2) := by decide +kernel
theorem dX6_init_213 : decode cX6_init 213 = .ok (.iastore, 1) := by decide +kernel
theorem dX6_init_214 : decode cX6_init 214 = .ok (.dup, 1) := by decide +kernel
theorem dX6_init_215 : decode cX6_init 215 = .ok (.bipush 18, 2) := by decide +kernel
theorem dX6_init_217 : decode cX6_init 217 = .ok (.bipush 104, 2) := by decide +kernel
theorem dX6_init_219 : decode cX6_init 219 = .ok (.iastore, 1) := by decide +kernel
theorem dX6_init_220 : decode cX6_init 220 = .ok (.dup, 1) := by decide +kernel
theorem dX6_init_221 : decode cX6_init 221 = .ok (.bipush 19, 2) := by decide +kernel
theorem dX6_init_223 : decode cX6_init 223 = .ok (.bipush 101, 2) := by decide +kernel
theorem dX6_init_225 : decode cX6_init 225 = .ok (.iastore, 1) := by decide +kernel
theorem dX6_init_226 : decode cX6_init 226 = .ok (.dup, 1) := by decide +kernel
theorem dX6_init_227 : decode cX6_init 227 = .ok (.bipush 20, 2) := by decide +kernel
theorem dX6_init_229 : decode cX6_init 229 = .ok (.bipush 105, 2) := by decide +kernel
theorem dX6_init_231 : decode cX6_init 231 = .ok (.iastore, 1) := by decide +kernel
theorem dX6_init_232 : decode cX6_init 232 = .ok (.dup, 1) := by decide +kernel
theorem dX6_init_233 : decode cX6_init 233 = .ok (.bipush 21, 2) := by decide +kernel
theorem dX6_init_235 : decode cX6_init 235 = .ok (.bipush 114, 2) := by decide +kernel
theorem dX6_init_237 : decode cX6_init 237 = .ok (.iastore, 1) := by decide +kernel
theorem dX6_init_238 : decode cX6_init 238 = .ok (.dup, 1) := by decide +kernel
theorem dX6_init_239 : decode cX6_init 239 = .ok (.bipush 22, 2) := by decide +kernel
theorem dX6_init_241 : decode cX6_init 241 = .ok (.bipush 99, 2) := by decide +kernel
theorem dX6_init_243 : decode cX6_init 243 = .ok (.iastore, 1) := by decide +kernel
theorem dX6_init_244 : decode cX6_init 244 = .ok (.dup, 1) := by decide +kernel
theorem dX6_init_245 : decode cX6_init 245 = .ok (.bipush 23, 2) := by decide +kernel
theorem dX6_init_247 : decode cX6_init 247 = .ok (.bipush 117, 2) := by decide +kernel
theorem dX6_init_249 : decode cX6_init 249 = .ok (.iastore, 1) := by decide +kernel
theorem dX6_init_250 : decode cX6_init 250 = .ok (.dup, 1) := by decide +kernel
theorem dX6_init_251 : decode cX6_init 251 = .ok (.bipush 24, 2) := by decide +kernel
theorem dX6_init_253 : decode cX6_init 253 = .ok (.bipush 114, 2) := by decide +kernel
theorem dX6_init_255 : decode cX6_init 255 = .ok (.iastore, 1) := by decide +kernel
theorem dX6_init_256 : decode cX6_init 256 = .ok (.dup, 1) := by decide +kernel
theorem dX6_init_257 : decode cX6_init 257 = .ok (.bipush 25, 2) := by decide +kernel
theorem dX6_init_259 : decode cX6_init 259 = .ok (.bipush 114, 2) := by decide +kernel
theorem dX6_init_261 : decode cX6_init 261 = .ok (.iastore, 1) := by decide +kernel
theorem dX6_init_262 : decode cX6_init 262 = .ok (.dup, 1) := by decide +kernel
theorem dX6_init_263 : decode cX6_init 263 = .ok (.bipush 26, 2) := by decide +kernel
theorem dX6_init_265 : decode cX6_init 265 = .ok (.bipush 101, 2) := by decide +kernel
theorem dX6_init_267 : decode cX6_init 267 = .ok (.iastore, 1) := by decide +kernel
theorem dX6_init_268 : decode cX6_init 268 = .ok (.dup, 1) := by decide +kernel
theorem dX6_init_269 : decode cX6_init 269 = .ok (.bipush 27, 2) := by decide +kernel
theorem dX6_init_271 : decode cX6_init 271 = .ok (.bipush 110, 2) := by decide +kernel
theorem dX6_init_273 : decode cX6_init 273 = .ok (.iastore, 1) := by decide +kernel
theorem dX6_init_274 : decode cX6_init 274 = .ok (.dup, 1) := by decide +kernel
theorem dX6_init_275 : decode cX6_init 275 = .ok (.bipush 28, 2) := by decide +kernel
theorem dX6_init_277 : decode cX6_init 277 = .ok (.bipush 116, 2) := by decide +kernel
theorem dX6_init_279 : decode cX6_init 279 = .ok (.iastore, 1) := by decide +kernel
theorem dX6_init_280 : decode cX6_init 280 = .ok (.dup, 1) := by decide +kernel
theorem dX6_init_281 : decode cX6_init 281 = .ok (.bipush 29, 2) := by decide +kernel
theorem dX6_init_283 : decode cX6_init 283 = .ok (.bipush 119, 2) := by decide +kernel
theorem dX6_init_285 : decode cX6_init 285 = .ok (.iastore, 1) := by decide +kernel
theorem dX6_init_286 : decode cX6_init 286 = .ok (.dup, 1) := by decide +kernel
theorem dX6_init_287 : decode cX6_init 287 = .ok (.bipush 30, 2) := by decide +kernel
theorem dX6_init_289 : decode cX6_init 289 = .ok (.bipush 105, 2) := by decide +kernel
theorem dX6_init_291 : decode cX6_init 291 = .ok (.iastore, 1) := by decide +kernel
theorem dX6_init_292 : decode cX6_init 292 = .ok (.dup, 1) := by decide +kernel
theorem dX6_init_293 : decode cX6_init 293 = .ok (.bipush 31, 2) := by decide +kernel
theorem dX6_init_295 : decode cX6_init 295 = .ok (.bipush 110, 2) := by decide +kernel
theorem dX6_init_297 : decode cX6_init 297 = .ok (.iastore, 1) := by decide +kernel
theorem dX6_init_298 : decode cX6_init 298 = .ok (.dup, 1) := by decide +kernel
theorem dX6_init_299 : decode cX6_init 299 = .ok (.bipush 32, 2) := by decide +kernel
theorem dX6_init_301 : decode cX6_init 301 = .ok (.bipush 100, 2) := by decide +kernel
theorem dX6_init_303 : decode cX6_init 303 = .ok (.iastore, 1) := by decide +kernel
theorem dX6_init_304 : decode cX6_init 304 = .ok (.dup, 1) := by decide +kernel
theorem dX6_init_305 : decode cX6_init 305 = .ok (.bipush 33, 2) := by decide +kernel
theorem dX6_init_307 : decode cX6_init 307 = .ok (.bipush 112, 2) := by decide +kernel
theorem dX6_init_309 : decode cX6_init 309 = .ok (.iastore, 1) := by decide +kernel
theorem dX6_init_310 : decode cX6_init 310 = .ok (.dup, 1) := by decide +kernel
theorem dX6_init_311 : decode cX6_init 311 = .ok (.bipush 34, 2) := by decide +kernel
theorem dX6_init_313 : decode cX6_init 313 = .ok (.bipush 104, 2) := by decide +kernel
theorem dX6_init_315 : decode cX6_init 315 = .ok (.iastore, 1) := by decide +kernel
theorem dX6_init_316 : decode cX6_init 316 = .ok (.dup, 1) := by decide +kernel
theorem dX6_init_317 : decode cX6_init 317 = .ok (.bipush 35, 2) := by decide +kernel
theorem dX6_init_319 : decode cX6_init 319 = .ok (.bipush 97, 2) := by decide +kernel
theorem dX6_init_321 : decode cX6_init 321 = .ok (.iastore, 1) := by decide +kernel
theorem dX6_init_322 : decode cX6_init 322 = .ok (.dup, 1) := by decide +kernel
theorem dX6_init_323 : decode cX6_init 323 = .ok (.bipush 36, 2) := by decide +kernel
theorem dX6_init_325 : decode cX6_init 325 = .ok (.bipush 115, 2) := by decide +kernel
theorem dX6_init_327 : decode cX6_init 327 = .ok (.iastore, 1) := by decide +kernel
theorem dX6_init_328 : decode cX6_init 328 = .ok (.dup, 1) := by decide +kernel
theorem dX6_init_329 : decode cX6_init 329 = .ok (.bipush 37, 2) := by decide +kernel
theorem dX6_init_331 : decode cX6_init 331 = .ok (.bipush 101, 2) := by decide +kernel
theorem dX6_init_333 : decode cX6_init 333 = .ok (.iastore, 1) := by decide +kernel
theorem dX6_init_334 : decode cX6_init 334 = .ok (.putfield 25, 3) := by decide +kernel
theorem dX6_init_337 : decode cX6_init 337 = .ok (.aload_n 0, 1) := by decide +kernel
theorem dX6_init_338 : decode cX6_init 338 = .ok (.iconst 4, 1) := by decide +kernel
theorem dX6_init_339 : decode cX6_init 339 = .ok (.newarray .int, 2) := by decide +kernel
theorem dX6_init_341 : decode cX6_init 341 = .ok (.putfield 28, 3) := by decide +kernel
theorem dX6_init_344 : decode cX6_init 344 = .ok (.aload_n 0, 1) := by decide +kernel
theorem dX6_init_345 : decode cX6_init 345 = .ok (.iconst 4, 1) := by decide +kernel
theorem dX6_init_346 : decode cX6_init 346 = .ok (.newarray .int, 2) := by decide +kernel
theorem dX6_init_348 : decode cX6_init 348 = .ok (.putfield 31, 3) := by decide +kernel
theorem dX6_init_351 : decode cX6_init 351 = .ok (.aload_n 0, 1) := by decide +kernel
theorem dX6_init_352 : decode cX6_init 352 = .ok (.iconst 4, 1) := by decide +kernel
theorem dX6_init_353 : decode cX6_init 353 = .ok (.newarray .int, 2) := by decide +kernel
theorem dX6_init_355 : decode cX6_init 355 = .ok (.putfield 34, 3) := by decide +kernel
theorem dX6_init_358 : decode cX6_init 358 = .ok (.aload_n 0, 1) := by decide +kernel
theorem dX6_init_359 : decode cX6_init 359 = .ok (.iconst 4, 1) := by decide +kernel
theorem dX6_init_360 : decode cX6_init 360 = .ok (.newarray .int, 2) := by decide +kernel
theorem dX6_init_362 : decode cX6_init 362 = .ok (.putfield 37, 3) := by decide +kernel
theorem dX6_init_365 : decode cX6_init 365 = .ok (.aload_n 0, 1) := by decide +kernel
theorem dX6_init_366 : decode cX6_init 366 = .ok (.iconst 4, 1) := by decide +kernel
theorem dX6_init_367 : decode cX6_init 367 = .ok (.newarray .int, 2) := by decide +kernel
theorem dX6_init_369 : decode cX6_init 369 = .ok (.putfield 40, 3) := by decide +kernel
theorem dX6_init_372 : decode cX6_init 372 = .ok (.aload_n 0, 1) := by decide +kernel
theorem dX6_init_373 : decode cX6_init 373 = .ok (.iconst 4, 1) := by decide +kernel
theorem dX6_init_374 : decode cX6_init 374 = .ok (.newarray .int, 2) := by decide +kernel
theorem dX6_init_376 : decode cX6_init 376 = .ok (.putfield 43, 3) := by decide +kernel
theorem dX6_init_379 : decode cX6_init 379 = .ok (.aload_n 0, 1) := by decide +kernel
theorem dX6_init_380 : decode cX6_init 380 = .ok (.bipush 100, 2) := by decide +kernel
theorem dX6_init_382 : decode cX6_init 382 = .ok (.newarray .int, 2) := by decide +kernel
theorem dX6_init_384 : decode cX6_init 384 = .ok (.putfield 46, 3) := by decide +kernel
theorem dX6_init_387 : decode cX6_init 387 = .ok (.aload_n 0, 1) := by decide +kernel
theorem dX6_init_388 : decode cX6_init 388 = .ok (.bipush 100, 2) := by decide +kernel
theorem dX6_init_390 : decode cX6_init 390 = .ok (.newarray .int, 2) := by decide +kernel
theorem dX6_init_392 : decode cX6_init 392 = .ok (.putfield 49, 3) := by decide +kernel
theorem dX6_init_395 : decode cX6_init 395 = .ok (.aload_n 0, 1) := by decide +kernel
theorem dX6_init_396 : decode cX6_init 396 = .ok (.bipush 18, 2) := by decide +kernel
theorem dX6_init_398 : decode cX6_init 398 = .ok (.newarray .int, 2) := by decide +kernel
theorem dX6_init_400 : decode cX6_init 400 = .ok (.putfield 52, 3) := by decide +kernel
theorem dX6_init_403 : decode cX6_init 403 = .ok (.aload_n 0, 1) := by decide +kernel
theorem dX6_init_404 : decode cX6_init 404 = .ok (.bipush 100, 2) := by decide +kernel
theorem dX6_init_406 : decode cX6_init 406 = .ok (.newarray .int, 2) := by decide +kernel
theorem dX6_init_408 : decode cX6_init 408 = .ok (.putfield 55, 3) := by decide +kernel
theorem dX6_init_411 : decode cX6_init 411 = .ok (.aload_n 0, 1) := by decide +kernel
theorem dX6_init_412 : decode cX6_init 412 = .ok (.iconst 2, 1) := by decide +kernel
theorem dX6_init_413 : decode cX6_init 413 = .ok (.newarray .boolean, 2) := by decide +kernel
theorem dX6_init_415 : decode cX6_init 415 = .ok (.putfield 58, 3) := by decide +kernel
theorem dX6_init_418 : decode cX6_init 418 = .ok (.aload_n 0, 1) := by decide +kernel
theorem dX6_init_419 : decode cX6_init 419 = .ok (.iconst 4, 1) := by decide +kernel
theorem dX6_init_420 : decode cX6_init 420 = .ok (.newarray .int, 2) := by decide +kernel
theorem dX6_init_422 : decode cX6_init 422 = .ok (.dup, 1) := by decide +kernel
theorem dX6_init_423 : decode cX6_init 423 = .ok (.iconst 0, 1) := by decide +kernel
theorem dX6_init_424 : decode cX6_init 424 = .ok (.bipush (-4), 2) := by decide +kernel
theorem dX6_init_426 : decode cX6_init 426 = .ok (.iastore, 1) := by decide +kernel
theorem dX6_init_427 : decode cX6_init 427 = .ok (.dup, 1) := by decide +kernel
theorem dX6_init_428 : decode cX6_init 428 = .ok (.iconst 1, 1) := by decide +kernel
theorem dX6_init_429 : decode cX6_init 429 = .ok (.bipush (-4), 2) := by decide +kernel
theorem dX6_init_431 : decode cX6_init 431 = .ok (.iastore, 1) := by decide +kernel
theorem dX6_init_432 : decode cX6_init 432 = .ok (.dup, 1) := by decide +kernel
theorem dX6_init_433 : decode cX6_init 433 = .ok (.iconst 2, 1) := by decide +kernel
theorem dX6_init_434 : decode cX6_init 434 = .ok (.bipush (-4), 2) := by decide +kernel
theorem dX6_init_436 : decode cX6_init 436 = .ok (.iastore, 1) := by decide +kernel
theorem dX6_init_437 : decode cX6_init 437 = .ok (.dup, 1) := by decide +kernel
theorem dX6_init_438 : decode cX6_init 438 = .ok (.iconst 3, 1) := by decide +kernel
theorem dX6_init_439 : decode cX6_init 439 = .ok (.bipush (-4), 2) := by decide +kernel
theorem dX6_init_441 : decode cX6_init 441 = .ok (.iastore, 1) := by decide +kernel
theorem dX6_init_442 : decode cX6_init 442 = .ok (.putfield 62, 3) := by decide +kernel
theorem dX6_init_445 : decode cX6_init 445 = .ok (.aload_n 0, 1) := by decide +kernel
theorem dX6_init_446 : decode cX6_init 446 = .ok (.iconst 4, 1) := by decide +kernel
theorem dX6_init_447 : decode cX6_init 447 = .ok (.newarray .int, 2) := by decide +kernel
theorem dX6_init_449 : decode cX6_init 449 = .ok (.putfield 65, 3) := by decide +kernel
theorem dX6_init_452 : decode cX6_init 452 = .ok (.aload_n 0, 1) := by decide +kernel
theorem dX6_init_453 : decode cX6_init 453 = .ok (.sipush 160, 3) := by decide +kernel
theorem dX6_init_456 : decode cX6_init 456 = .ok (.newarray .int, 2) := by decide +kernel
theorem dX6_init_458 : decode cX6_init 458 = .ok (.putfield 68, 3) := by decide +kernel
theorem dX6_init_461 : decode cX6_init 461 = .ok (.return_, 1) := by decide +kernel
theorem dX6_in_0 : decode cX6_in 0 = .ok (.lload_n 0, 1) := by decide +kernel
theorem dX6_in_1 : decode cX6_in 1 = .ok (.lload_n 2, 1) := by decide +kernel
theorem dX6_in_2 : decode cX6_in 2 = .ok (.lcmp, 1) := by decide +kernel
theorem dX6_in_3 : decode cX6_in 3 = .ok (.ifCond .lt 14, 3) := by decide +kernel
theorem dX6_in_6 : decode cX6_in 6 = .ok (.lload_n 0, 1) := by decide +kernel
theorem dX6_in_7 : decode cX6_in 7 = .ok (.lload 4, 2) := by decide +kernel
theorem dX6_in_9 : decode cX6_in 9 = .ok (.lcmp, 1) := by decide +kernel
theorem dX6_in_10 : decode cX6_in 10 = .ok (.ifCond .gt 7, 3) := by decide +kernel
theorem dX6_in_13 : decode cX6_in 13 = .ok (.iconst 1, 1) := by decide +kernel
theorem dX6_in_14 : decode cX6_in 14 = .ok (.goto 4, 3) := by decide +kernel
theorem dX6_in_17 : decode cX6_in 17 = .ok (.iconst 0, 1) := by decide +kernel
theorem dX6_in_18 : decode cX6_in 18 = .ok (.ireturn, 1) := by decide +kernel
theorem dX6_feed_0 : decode cX6_feed 0 = .ok (.iload_n 1, 1) := by decide +kernel
theorem dX6_feed_1 : decode cX6_feed 1 = .ok (.i2l, 1) := by decide +kernel
theorem dX6_feed_2 : decode cX6_feed 2 = .ok (.lconst 0, 1) := by decide +kernel
theorem dX6_feed_3 : decode cX6_feed 3 = .ok (.ldc2_w 71, 3) := by decide +kernel
theorem dX6_feed_6 : decode cX6_feed 6 = .ok (.invokestatic 73, 3) := by decide +kernel
theorem dX6_feed_9 : decode cX6_feed 9 = .ok (.ifCond .ne 5, 3) := by decide +kernel
theorem dX6_feed_12 : decode cX6_feed 12 = .ok (.iconst (-1), 1) := by decide +kernel
theorem dX6_feed_13 : decode cX6_feed 13 = .ok (.ireturn, 1) := by decide +kernel
theorem dX6_feed_14 : decode cX6_feed 14 = .ok (.aload_n 0, 1) := by decide +kernel
theorem dX6_feed_15 : decode cX6_feed 15 = .ok (.getfield 77, 3) := by decide +kernel
theorem dX6_feed_18 : decode cX6_feed 18 = .ok (.sipush 160, 3) := by decide +kernel
theorem dX6_feed_21 : decode cX6_feed 21 = .ok (.if_icmp .ne 6, 3) := by decide +kernel
theorem dX6_feed_24 : decode cX6_feed 24 = .ok (.bipush (-3), 2) := by decide +kernel
theorem dX6_feed_26 : decode cX6_feed 26 = .ok (.ireturn, 1) := by decide +kernel
theorem dX6_feed_27 : decode cX6_feed 27 = .ok (.aload_n 0, 1) := by decide +kernel
theorem dX6_feed_28 : decode cX6_feed 28 = .ok (.getfield 19, 3) := by decide +kernel
theorem dX6_feed_31 : decode cX6_feed 31 = .ok (.aload_n 0, 1) := by decide +kernel
theorem dX6_feed_32 : decode cX6_feed 32 = .ok (.getfield 77, 3) := by decide +kernel
theorem dX6_feed_35 : decode cX6_feed 35 = .ok (.iload_n 1, 1) := by decide +kernel
theorem dX6_feed_36 : decode cX6_feed 36 = .ok (.iastore, 1) := by decide +kernel
theorem dX6_feed_37 : decode cX6_feed 37 = .ok (.aload_n 0, 1) := by decide +kernel
theorem dX6_feed_38 : decode cX6_feed 38 = .ok (.dup, 1) := by decide +kernel
theorem dX6_feed_39 : decode cX6_feed 39 = .ok (.getfield 77, 3) := by decide +kernel
theorem dX6_feed_42 : decode cX6_feed 42 = .ok (.iconst 1, 1) := by decide +kernel
theorem dX6_feed_43 : decode cX6_feed 43 = .ok (.iadd, 1) := by decide +kernel
theorem dX6_feed_44 : decode cX6_feed 44 = .ok (.putfield 77, 3) := by decide +kernel
theorem dX6_feed_47 : decode cX6_feed 47 = .ok (.aload_n 0, 1) := by decide +kernel
theorem dX6_feed_48 : decode cX6_feed 48 = .ok (.getfield 77, 3) := by decide +kernel
theorem dX6_feed_51 : decode cX6_feed 51 = .ok (.ireturn, 1) := by decide +kernel
theorem dX6_end_0 : decode cX6_end 0 = .ok (.iload_n 1, 1) := by decide +kernel
theorem dX6_end_1 : decode cX6_end 1 = .ok (.i2l, 1) := by decide +kernel
theorem dX6_end_2 : decode cX6_end 2 = .ok (.lconst 0, 1) := by decide +kernel
theorem dX6_end_3 : decode cX6_end 3 = .ok (.aload_n 0, 1) := by decide +kernel
theorem dX6_end_4 : decode cX6_end 4 = .ok (.getfield 77, 3) := by decide +kernel
theorem dX6_end_7 : decode cX6_end 7 = .ok (.i2l, 1) := by decide +kernel
theorem dX6_end_8 : decode cX6_end 8 = .ok (.invokestatic 73, 3) := by decide +kernel
theorem dX6_end_11 : decode cX6_end 11 = .ok (.ifCond .ne 5, 3) := by decide +kernel
theorem dX6_end_14 : decode cX6_end 14 = .ok (.iconst (-1), 1) := by decide +kernel
theorem dX6_end_15 : decode cX6_end 15 = .ok (.ireturn, 1) := by decide +kernel
theorem dX6_end_16 : decode cX6_end 16 = .ok (.aload_n 0, 1) := by decide +kernel
theorem dX6_end_17 : decode cX6_end 17 = .ok (.getfield 77, 3) := by decide +kernel
theorem dX6_end_20 : decode cX6_end 20 = .ok (.istore_n 2, 1) := by decide +kernel
theorem dX6_end_21 : decode cX6_end 21 = .ok (.aload_n 0, 1) := by decide +kernel
theorem dX6_end_22 : decode cX6_end 22 = .ok (.iload_n 1, 1) := by decide +kernel
theorem dX6_end_23 : decode cX6_end 23 = .ok (.putfield 77, 3) := by decide +kernel
theorem dX6_end_26 : decode cX6_end 26 = .ok (.iload_n 2, 1) := by decide +kernel
theorem dX6_end_27 : decode cX6_end 27 = .ok (.ireturn, 1) := by decide +kernel
theorem dX6_byteAt_0 : decode cX6_byteAt 0 = .ok (.iload_n 1, 1) := by decide +kernel
theorem dX6_byteAt_1 : decode cX6_byteAt 1 = .ok (.aload_n 0, 1) := by decide +kernel
theorem dX6_byteAt_2 : decode cX6_byteAt 2 = .ok (.getfield 77, 3) := by decide +kernel
theorem dX6_byteAt_5 : decode cX6_byteAt 5 = .ok (.if_icmp .ge 12, 3) := by decide +kernel
theorem dX6_byteAt_8 : decode cX6_byteAt 8 = .ok (.aload_n 0, 1) := by decide +kernel
theorem dX6_byteAt_9 : decode cX6_byteAt 9 = .ok (.getfield 19, 3) := by decide +kernel
theorem dX6_byteAt_12 : decode cX6_byteAt 12 = .ok (.iload_n 1, 1) := by decide +kernel
theorem dX6_byteAt_13 : decode cX6_byteAt 13 = .ok (.iaload, 1) := by decide +kernel
theorem dX6_byteAt_14 : decode cX6_byteAt 14 = .ok (.goto 5, 3) := by decide +kernel
theorem dX6_byteAt_17 : decode cX6_byteAt 17 = .ok (.bipush (-4), 2) := by decide +kernel
theorem dX6_byteAt_19 : decode cX6_byteAt 19 = .ok (.ireturn, 1) := by decide +kernel
theorem dX6_fails_0 : decode cX6_fails 0 = .ok (.aload_n 0, 1) := by decide +kernel
theorem dX6_fails_1 : decode cX6_fails 1 = .ok (.getfield 81, 3) := by decide +kernel
theorem dX6_fails_4 : decode cX6_fails 4 = .ok (.ifCond .ne 16, 3) := by decide +kernel
theorem dX6_fails_7 : decode cX6_fails 7 = .ok (.aload_n 0, 1) := by decide +kernel
theorem dX6_fails_8 : decode cX6_fails 8 = .ok (.iload_n 1, 1) := by decide +kernel
theorem dX6_fails_9 : decode cX6_fails 9 = .ok (.putfield 81, 3) := by decide +kernel
theorem dX6_fails_12 : decode cX6_fails 12 = .ok (.aload_n 0, 1) := by decide +kernel
theorem dX6_fails_13 : decode cX6_fails 13 = .ok (.aload_n 0, 1) := by decide +kernel
theorem dX6_fails_14 : decode cX6_fails 14 = .ok (.getfield 84, 3) := by decide +kernel
theorem dX6_fails_17 : decode cX6_fails 17 = .ok (.putfield 87, 3) := by decide +kernel
theorem dX6_fails_20 : decode cX6_fails 20 = .ok (.return_, 1) := by decide +kernel
theorem dX6_nameHere_0 : decode cX6_nameHere 0 = .ok (.iconst 0, 1) := by decide +kernel
theorem dX6_nameHere_1 : decode cX6_nameHere 1 = .ok (.istore_n 1, 1) := by decide +kernel
theorem dX6_nameHere_2 : decode cX6_nameHere 2 = .ok (.iload_n 1, 1) := by decide +kernel
theorem dX6_nameHere_3 : decode cX6_nameHere 3 = .ok (.bipush 8, 2) := by decide +kernel
theorem dX6_nameHere_5 : decode cX6_nameHere 5 = .ok (.if_icmp .ge 113, 3) := by decide +kernel
theorem dX6_nameHere_8 : decode cX6_nameHere 8 = .ok (.aload_n 0, 1) := by decide +kernel
theorem dX6_nameHere_9 : decode cX6_nameHere 9 = .ok (.getfield 90, 3) := by decide +kernel
theorem dX6_nameHere_12 : decode cX6_nameHere 12 = .ok (.iconst 1, 1) := by decide +kernel
theorem dX6_nameHere_13 : decode cX6_nameHere 13 = .ok (.if_icmp .ne 105, 3) := by decide +kernel
theorem dX6_nameHere_16 : decode cX6_nameHere 16 = .ok (.aload_n 0, 1) := by decide +kernel
theorem dX6_nameHere_17 : decode cX6_nameHere 17 = .ok (.getfield 93, 3) := by decide +kernel
theorem dX6_nameHere_20 : decode cX6_nameHere 20 = .ok (.aload_n 0, 1) := by decide +kernel
theorem dX6_nameHere_21 : decode cX6_nameHere 21 = .ok (.getfield 84, 3) := by decide +kernel
theorem dX6_nameHere_24 : decode cX6_nameHere 24 = .ok (.isub, 1) := by decide +kernel
theorem dX6_nameHere_25 : decode cX6_nameHere 25 = .ok (.aload_n 0, 1) := by decide +kernel
theorem dX6_nameHere_26 : decode cX6_nameHere 26 = .ok (.getfield 22, 3) := by decide +kernel
theorem dX6_nameHere_29 : decode cX6_nameHere 29 = .ok (.iload_n 1, 1) := by decide +kernel
theorem dX6_nameHere_30 : decode cX6_nameHere 30 = .ok (.iconst 1, 1) := by decide +kernel
theorem dX6_nameHere_31 : decode cX6_nameHere 31 = .ok (.iadd, 1) := by decide +kernel
theorem dX6_nameHere_32 : decode cX6_nameHere 32 = .ok (.iaload, 1) := by decide +kernel
theorem dX6_nameHere_33 : decode cX6_nameHere 33 = .ok (.aload_n 0, 1) := by decide +kernel
theorem dX6_nameHere_34 : decode cX6_nameHere 34 = .ok (.getfield 22, 3) := by decide +kernel
theorem dX6_nameHere_37 : decode cX6_nameHere 37 = .ok (.iload_n 1, 1) := by decide +kernel
theorem dX6_nameHere_38 : decode cX6_nameHere 38 = .ok (.iaload, 1) := by decide +kernel
theorem dX6_nameHere_39 : decode cX6_nameHere 39 = .ok (.isub, 1) := by decide +kernel
theorem dX6_nameHere_40 : decode cX6_nameHere 40 = .ok (.if_icmp .ne 7, 3) := by decide +kernel
theorem dX6_nameHere_43 : decode cX6_nameHere 43 = .ok (.iconst 1, 1) := by decide +kernel
theorem dX6_nameHere_44 : decode cX6_nameHere 44 = .ok (.goto 4, 3) := by decide +kernel
theorem dX6_nameHere_47 : decode cX6_nameHere 47 = .ok (.iconst 0, 1) := by decide +kernel
theorem dX6_nameHere_48 : decode cX6_nameHere 48 = .ok (.istore_n 2, 1) := by decide +kernel
theorem dX6_nameHere_49 : decode cX6_nameHere 49 = .ok (.iconst 0, 1) := by decide +kernel
theorem dX6_nameHere_50 : decode cX6_nameHere 50 = .ok (.istore_n 3, 1) := by decide +kernel
theorem dX6_nameHere_51 : decode cX6_nameHere 51 = .ok (.iload_n 2, 1) := by decide +kernel
theorem dX6_nameHere_52 : decode cX6_nameHere 52 = .ok (.ifCond .eq 54, 3) := by decide +kernel
theorem dX6_nameHere_55 : decode cX6_nameHere 55 = .ok (.iload_n 3, 1) := by decide +kernel
theorem dX6_nameHere_56 : decode cX6_nameHere 56 = .ok (.aload_n 0, 1) := by decide +kernel
theorem dX6_nameHere_57 : decode cX6_nameHere 57 = .ok (.getfield 93, 3) := by decide +kernel
theorem dX6_nameHere_60 : decode cX6_nameHere 60 = .ok (.aload_n 0, 1) := by decide +kernel
theorem dX6_nameHere_61 : decode cX6_nameHere 61 = .ok (.getfield 84, 3) := by decide +kernel
theorem dX6_nameHere_64 : decode cX6_nameHere 64 = .ok (.isub, 1) := by decide +kernel
theorem dX6_nameHere_65 : decode cX6_nameHere 65 = .ok (.if_icmp .ge 41, 3) := by decide +kernel
theorem dX6_nameHere_68 : decode cX6_nameHere 68 = .ok (.aload_n 0, 1) := by decide +kernel
theorem dX6_nameHere_69 : decode cX6_nameHere 69 = .ok (.aload_n 0, 1) := by decide +kernel
theorem dX6_nameHere_70 : decode cX6_nameHere 70 = .ok (.getfield 84, 3) := by decide +kernel
theorem dX6_nameHere_73 : decode cX6_nameHere 73 = .ok (.iload_n 3, 1) := by decide +kernel
theorem dX6_nameHere_74 : decode cX6_nameHere 74 = .ok (.iadd, 1) := by decide +kernel
theorem dX6_nameHere_75 : decode cX6_nameHere 75 = .ok (.invokevirtual 96, 3) := by decide +kernel
theorem dX6_nameHere_78 : decode cX6_nameHere 78 = .ok (.aload_n 0, 1) := by decide +kernel
theorem dX6_nameHere_79 : decode cX6_nameHere 79 = .ok (.getfield 25, 3) := by decide +kernel
theorem dX6_nameHere_82 : decode cX6_nameHere 82 = .ok (.aload_n 0, 1) := by decide +kernel
theorem dX6_nameHere_83 : decode cX6_nameHere 83 = .ok (.getfield 22, 3) := by decide +kernel
theorem dX6_nameHere_86 : decode cX6_nameHere 86 = .ok (.iload_n 1, 1) := by decide +kernel
theorem dX6_nameHere_87 : decode cX6_nameHere 87 = .ok (.iaload, 1) := by decide +kernel
theorem dX6_nameHere_88 : decode cX6_nameHere 88 = .ok (.iload_n 3, 1) := by decide +kernel
theorem dX6_nameHere_89 : decode cX6_nameHere 89 = .ok (.iadd, 1) := by decide +kernel
theorem dX6_nameHere_90 : decode cX6_nameHere 90 = .ok (.iaload, 1) := by decide +kernel
theorem dX6_nameHere_91 : decode cX6_nameHere 91 = .ok (.if_icmp .ne 7, 3) := by decide +kernel
theorem dX6_nameHere_94 : decode cX6_nameHere 94 = .ok (.iconst 1, 1) := by decide +kernel
theorem dX6_nameHere_95 : decode cX6_nameHere 95 = .ok (.goto 4, 3) := by decide +kernel
theorem dX6_nameHere_98 : decode cX6_nameHere 98 = .ok (.iconst 0, 1) := by decide +kernel
theorem dX6_nameHere_99 : decode cX6_nameHere 99 = .ok (.istore_n 2, 1) := by decide +kernel
theorem dX6_nameHere_100 : decode cX6_nameHere 100 = .ok (.iinc 3 1, 3) := by decide +kernel
theorem dX6_nameHere_103 : decode cX6_nameHere 103 = .ok (.goto (-52), 3) := by decide +kernel
theorem dX6_nameHere_106 : decode cX6_nameHere 106 = .ok (.iload_n 2, 1) := by decide +kernel
theorem dX6_nameHere_107 : decode cX6_nameHere 107 = .ok (.ifCond .eq 5, 3) := by decide +kernel
theorem dX6_nameHere_110 : decode cX6_nameHere 110 = .ok (.iload_n 1, 1) := by decide +kernel
theorem dX6_nameHere_111 : decode cX6_nameHere 111 = .ok (.ireturn, 1) := by decide +kernel
theorem dX6_nameHere_112 : decode cX6_nameHere 112 = .ok (.iinc 1 1, 3) := by decide +kernel
theorem dX6_nameHere_115 : decode cX6_nameHere 115 = .ok (.goto (-113), 3) := by decide +kernel
theorem dX6_nameHere_118 : decode cX6_nameHere 118 = .ok (.bipush (-4), 2) := by decide +kernel
theorem dX6_nameHere_120 : decode cX6_nameHere 120 = .ok (.ireturn, 1) := by decide +kernel
theorem dX6_step_0 : decode cX6_step 0 = .ok (.aload_n 0, 1) := by decide +kernel
theorem dX6_step_1 : decode cX6_step 1 = .ok (.getfield 81, 3) := by decide +kernel
theorem dX6_step_4 : decode cX6_step 4 = .ok (.ifCond .le 4, 3) := by decide +kernel
theorem dX6_step_7 : decode cX6_step 7 = .ok (.return_, 1) := by decide +kernel
theorem dX6_step_8 : decode cX6_step 8 = .ok (.aload_n 0, 1) := by decide +kernel
theorem dX6_step_9 : decode cX6_step 9 = .ok (.aload_n 0, 1) := by decide +kernel
theorem dX6_step_10 : decode cX6_step 10 = .ok (.getfield 93, 3) := by decide +kernel
theorem dX6_step_13 : decode cX6_step 13 = .ok (.invokevirtual 96, 3) := by decide +kernel
theorem dX6_step_16 : decode cX6_step 16 = .ok (.bipush 32, 2) := by decide +kernel
theorem dX6_step_18 : decode cX6_step 18 = .ok (.if_icmp .ne 16, 3) := by decide +kernel
theorem dX6_step_21 : decode cX6_step 21 = .ok (.aload_n 0, 1) := by decide +kernel
theorem dX6_step_22 : decode cX6_step 22 = .ok (.dup, 1) := by decide +kernel
theorem dX6_step_23 : decode cX6_step 23 = .ok (.getfield 93, 3) := by decide +kernel
theorem dX6_step_26 : decode cX6_step 26 = .ok (.iconst 1, 1) := by decide +kernel
theorem dX6_step_27 : decode cX6_step 27 = .ok (.iadd, 1) := by decide +kernel
theorem dX6_step_28 : decode cX6_step 28 = .ok (.putfield 93, 3) := by decide +kernel
theorem dX6_step_31 : decode cX6_step 31 = .ok (.goto (-23), 3) := by decide +kernel
theorem dX6_step_34 : decode cX6_step 34 = .ok (.aload_n 0, 1) := by decide +kernel
theorem dX6_step_35 : decode cX6_step 35 = .ok (.aload_n 0, 1) := by decide +kernel
theorem dX6_step_36 : decode cX6_step 36 = .ok (.getfield 93, 3) := by decide +kernel
theorem dX6_step_39 : decode cX6_step 39 = .ok (.putfield 84, 3) := by decide +kernel
theorem dX6_step_42 : decode cX6_step 42 = .ok (.aload_n 0, 1) := by decide +kernel
theorem dX6_step_43 : decode cX6_step 43 = .ok (.aload_n 0, 1) := by decide +kernel
theorem dX6_step_44 : decode cX6_step 44 = .ok (.getfield 93, 3) := by decide +kernel
theorem dX6_step_47 : decode cX6_step 47 = .ok (.invokevirtual 96, 3) := by decide +kernel
theorem dX6_step_50 : decode cX6_step 50 = .ok (.istore_n 1, 1) := by decide +kernel
theorem dX6_step_51 : decode cX6_step 51 = .ok (.aload_n 0, 1) := by decide +kernel
theorem dX6_step_52 : decode cX6_step 52 = .ok (.iconst 0, 1) := by decide +kernel
theorem dX6_step_53 : decode cX6_step 53 = .ok (.putfield 100, 3) := by decide +kernel
theorem dX6_step_56 : decode cX6_step 56 = .ok (.iload_n 1, 1) := by decide +kernel
theorem dX6_step_57 : decode cX6_step 57 = .ok (.bipush (-4), 2) := by decide +kernel
theorem dX6_step_59 : decode cX6_step 59 = .ok (.if_icmp .ne 11, 3) := by decide +kernel
theorem dX6_step_62 : decode cX6_step 62 = .ok (.aload_n 0, 1) := by decide +kernel
theorem dX6_step_63 : decode cX6_step 63 = .ok (.iconst 0, 1) := by decide +kernel
theorem dX6_step_64 : decode cX6_step 64 = .ok (.putfield 90, 3) := by decide +kernel
theorem dX6_step_67 : decode cX6_step 67 = .ok (.goto 202, 3) := by decide +kernel
theorem dX6_step_70 : decode cX6_step 70 = .ok (.iload_n 1, 1) := by decide +kernel
theorem dX6_step_71 : decode cX6_step 71 = .ok (.i2l, 1) := by decide +kernel
theorem dX6_step_72 : decode cX6_step 72 = .ok (.ldc2_w 103, 3) := by decide +kernel
theorem dX6_step_75 : decode cX6_step 75 = .ok (.ldc2_w 105, 3) := by decide +kernel
theorem dX6_step_78 : decode cX6_step 78 = .ok (.invokestatic 73, 3) := by decide +kernel
theorem dX6_step_81 : decode cX6_step 81 = .ok (.ifCond .eq 45, 3) := by decide +kernel
theorem dX6_step_84 : decode cX6_step 84 = .ok (.aload_n 0, 1) := by decide +kernel
theorem dX6_step_85 : decode cX6_step 85 = .ok (.aload_n 0, 1) := by decide +kernel
theorem dX6_step_86 : decode cX6_step 86 = .ok (.getfield 93, 3) := by decide +kernel
theorem dX6_step_89 : decode cX6_step 89 = .ok (.invokevirtual 96, 3) := by decide +kernel
theorem dX6_step_92 : decode cX6_step 92 = .ok (.i2l, 1) := by decide +kernel
theorem dX6_step_93 : decode cX6_step 93 = .ok (.ldc2_w 103, 3) := by decide +kernel
theorem dX6_step_96 : decode cX6_step 96 = .ok (.ldc2_w 105, 3) := by decide +kernel
theorem dX6_step_99 : decode cX6_step 99 = .ok (.invokestatic 73, 3) := by decide +kernel
theorem dX6_step_102 : decode cX6_step 102 = .ok (.ifCond .eq 16, 3) := by decide +kernel
theorem dX6_step_105 : decode cX6_step 105 = .ok (.aload_n 0, 1) := by decide +kernel
theorem dX6_step_106 : decode cX6_step 106 = .ok (.dup, 1) := by decide +kernel
theorem dX6_step_107 : decode cX6_step 107 = .ok (.getfield 93, 3) := by decide +kernel
theorem dX6_step_110 : decode cX6_step 110 = .ok (.iconst 1, 1) := by decide +kernel
theorem dX6_step_111 : decode cX6_step 111 = .ok (.iadd, 1) := by decide +kernel
theorem dX6_step_112 : decode cX6_step 112 = .ok (.putfield 93, 3) := by decide +kernel
theorem dX6_step_115 : decode cX6_step 115 = .ok (.goto (-31), 3) := by decide +kernel
theorem dX6_step_118 : decode cX6_step 118 = .ok (.aload_n 0, 1) := by decide +kernel
theorem dX6_step_119 : decode cX6_step 119 = .ok (.iconst 1, 1) := by decide +kernel
theorem dX6_step_120 : decode cX6_step 120 = .ok (.putfield 90, 3) := by decide +kernel
theorem dX6_step_123 : decode cX6_step 123 = .ok (.goto 146, 3) := by decide +kernel
theorem dX6_step_126 : decode cX6_step 126 = .ok (.iload_n 1, 1) := by decide +kernel
theorem dX6_step_127 : decode cX6_step 127 = .ok (.i2l, 1) := by decide +kernel
theorem dX6_step_128 : decode cX6_step 128 = .ok (.ldc2_w 107, 3) := by decide +kernel
theorem dX6_step_131 : decode cX6_step 131 = .ok (.ldc2_w 109, 3) := by decide +kernel
theorem dX6_step_134 : decode cX6_step 134 = .ok (.invokestatic 73, 3) := by decide +kernel
theorem dX6_step_137 : decode cX6_step 137 = .ok (.ifCond .eq 106, 3) := by decide +kernel
theorem dX6_step_140 : decode cX6_step 140 = .ok (.aload_n 0, 1) := by decide +kernel
theorem dX6_step_141 : decode cX6_step 141 = .ok (.aload_n 0, 1) := by decide +kernel
theorem dX6_step_142 : decode cX6_step 142 = .ok (.getfield 93, 3) := by decide +kernel
theorem dX6_step_145 : decode cX6_step 145 = .ok (.invokevirtual 96, 3) := by decide +kernel
theorem dX6_step_148 : decode cX6_step 148 = .ok (.i2l, 1) := by decide +kernel
theorem dX6_step_149 : decode cX6_step 149 = .ok (.ldc2_w 107, 3) := by decide +kernel
theorem dX6_step_152 : decode cX6_step 152 = .ok (.ldc2_w 109, 3) := by decide +kernel
theorem dX6_step_155 : decode cX6_step 155 = .ok (.invokestatic 73, 3) := by decide +kernel
theorem dX6_step_158 : decode cX6_step 158 = .ok (.ifCond .eq 59, 3) := by decide +kernel
theorem dX6_step_161 : decode cX6_step 161 = .ok (.aload_n 0, 1) := by decide +kernel
theorem dX6_step_162 : decode cX6_step 162 = .ok (.aload_n 0, 1) := by decide +kernel
theorem dX6_step_163 : decode cX6_step 163 = .ok (.getfield 93, 3) := by decide +kernel
theorem dX6_step_166 : decode cX6_step 166 = .ok (.aload_n 0, 1) := by decide +kernel
theorem dX6_step_167 : decode cX6_step 167 = .ok (.getfield 84, 3) := by decide +kernel
theorem dX6_step_170 : decode cX6_step 170 = .ok (.isub, 1) := by decide +kernel
theorem dX6_step_171 : decode cX6_step 171 = .ok (.iconst 2, 1) := by decide +kernel
theorem dX6_step_172 : decode cX6_step 172 = .ok (.if_icmp .ge 25, 3) := by decide +kernel
theorem dX6_step_175 : decode cX6_step 175 = .ok (.bipush 10, 2) := by decide +kernel
theorem dX6_step_177 : decode cX6_step 177 = .ok (.aload_n 0, 1) := by decide +kernel
theorem dX6_step_178 : decode cX6_step 178 = .ok (.getfield 100, 3) := by decide +kernel
theorem dX6_step_181 : decode cX6_step 181 = .ok (.imul, 1) := by decide +kernel
theorem dX6_step_182 : decode cX6_step 182 = .ok (.aload_n 0, 1) := by decide +kernel
theorem dX6_step_183 : decode cX6_step 183 = .ok (.aload_n 0, 1) := by decide +kernel
theorem dX6_step_184 : decode cX6_step 184 = .ok (.getfield 93, 3) := by decide +kernel
theorem dX6_step_187 : decode cX6_step 187 = .ok (.invokevirtual 96, 3) := by decide +kernel
theorem dX6_step_190 : decode cX6_step 190 = .ok (.iadd, 1) := by decide +kernel
theorem dX6_step_191 : decode cX6_step 191 = .ok (.bipush 48, 2) := by decide +kernel
theorem dX6_step_193 : decode cX6_step 193 = .ok (.isub, 1) := by decide +kernel
theorem dX6_step_194 : decode cX6_step 194 = .ok (.goto 7, 3) := by decide +kernel
theorem dX6_step_197 : decode cX6_step 197 = .ok (.aload_n 0, 1) := by decide +kernel
theorem dX6_step_198 : decode cX6_step 198 = .ok (.getfield 100, 3) := by decide +kernel
theorem dX6_step_201 : decode cX6_step 201 = .ok (.putfield 100, 3) := by decide +kernel
theorem dX6_step_204 : decode cX6_step 204 = .ok (.aload_n 0, 1) := by decide +kernel
theorem dX6_step_205 : decode cX6_step 205 = .ok (.dup, 1) := by decide +kernel
theorem dX6_step_206 : decode cX6_step 206 = .ok (.getfield 93, 3) := by decide +kernel
theorem dX6_step_209 : decode cX6_step 209 = .ok (.iconst 1, 1) := by decide +kernel
theorem dX6_step_210 : decode cX6_step 210 = .ok (.iadd, 1) := by decide +kernel
theorem dX6_step_211 : decode cX6_step 211 = .ok (.putfield 93, 3) := by decide +kernel
theorem dX6_step_214 : decode cX6_step 214 = .ok (.goto (-74), 3) := by decide +kernel
theorem dX6_step_217 : decode cX6_step 217 = .ok (.aload_n 0, 1) := by decide +kernel
theorem dX6_step_218 : decode cX6_step 218 = .ok (.iconst 2, 1) := by decide +kernel
theorem dX6_step_219 : decode cX6_step 219 = .ok (.putfield 90, 3) := by decide +kernel
theorem dX6_step_222 : decode cX6_step 222 = .ok (.aload_n 0, 1) := by decide +kernel
theorem dX6_step_223 : decode cX6_step 223 = .ok (.getfield 93, 3) := by decide +kernel
theorem dX6_step_226 : decode cX6_step 226 = .ok (.aload_n 0, 1) := by decide +kernel
theorem dX6_step_227 : decode cX6_step 227 = .ok (.getfield 84, 3) := by decide +kernel
theorem dX6_step_230 : decode cX6_step 230 = .ok (.isub, 1) := by decide +kernel
theorem dX6_step_231 : decode cX6_step 231 = .ok (.iconst 2, 1) := by decide +kernel
theorem dX6_step_232 : decode cX6_step 232 = .ok (.if_icmp .le 37, 3) := by decide +kernel
theorem dX6_step_235 : decode cX6_step 235 = .ok (.aload_n 0, 1) := by decide +kernel
theorem dX6_step_236 : decode cX6_step 236 = .ok (.iconst 1, 1) := by decide +kernel
theorem dX6_step_237 : decode cX6_step 237 = .ok (.invokevirtual 111, 3) := by decide +kernel
theorem dX6_step_240 : decode cX6_step 240 = .ok (.goto 29, 3) := by decide +kernel
theorem dX6_step_243 : decode cX6_step 243 = .ok (.aload_n 0, 1) := by decide +kernel
theorem dX6_step_244 : decode cX6_step 244 = .ok (.iconst 3, 1) := by decide +kernel
theorem dX6_step_245 : decode cX6_step 245 = .ok (.putfield 90, 3) := by decide +kernel
theorem dX6_step_248 : decode cX6_step 248 = .ok (.aload_n 0, 1) := by decide +kernel
theorem dX6_step_249 : decode cX6_step 249 = .ok (.dup, 1) := by decide +kernel
theorem dX6_step_250 : decode cX6_step 250 = .ok (.getfield 93, 3) := by decide +kernel
theorem dX6_step_253 : decode cX6_step 253 = .ok (.iconst 1, 1) := by decide +kernel
theorem dX6_step_254 : decode cX6_step 254 = .ok (.iadd, 1) := by decide +kernel
theorem dX6_step_255 : decode cX6_step 255 = .ok (.putfield 93, 3) := by decide +kernel
theorem dX6_step_258 : decode cX6_step 258 = .ok (.iload_n 1, 1) := by decide +kernel
theorem dX6_step_259 : decode cX6_step 259 = .ok (.bipush 59, 2) := by decide +kernel
theorem dX6_step_261 : decode cX6_step 261 = .ok (.if_icmp .eq 8, 3) := by decide +kernel
theorem dX6_step_264 : decode cX6_step 264 = .ok (.aload_n 0, 1) := by decide +kernel
theorem dX6_step_265 : decode cX6_step 265 = .ok (.iconst 1, 1) := by decide +kernel
theorem dX6_step_266 : decode cX6_step 266 = .ok (.invokevirtual 111, 3) := by decide +kernel
theorem dX6_step_269 : decode cX6_step 269 = .ok (.return_, 1) := by decide +kernel
theorem dX6_other_0 : decode cX6_other 0 = .ok (.aload_n 0, 1) := by decide +kernel
theorem dX6_other_1 : decode cX6_other 1 = .ok (.getfield 81, 3) := by decide +kernel
theorem dX6_other_4 : decode cX6_other 4 = .ok (.ifCond .ne 16, 3) := by decide +kernel
theorem dX6_other_7 : decode cX6_other 7 = .ok (.aload_n 0, 1) := by decide +kernel
theorem dX6_other_8 : decode cX6_other 8 = .ok (.getfield 90, 3) := by decide +kernel
theorem dX6_other_11 : decode cX6_other 11 = .ok (.iconst 2, 1) := by decide +kernel
theorem dX6_other_12 : decode cX6_other 12 = .ok (.if_icmp .eq 8, 3) := by decide +kernel
theorem dX6_other_15 : decode cX6_other 15 = .ok (.aload_n 0, 1) := by decide +kernel
theorem dX6_other_16 : decode cX6_other 16 = .ok (.iconst 2, 1) := by decide +kernel
theorem dX6_other_17 : decode cX6_other 17 = .ok (.invokevirtual 111, 3) := by decide +kernel
theorem dX6_other_20 : decode cX6_other 20 = .ok (.aload_n 0, 1) := by decide +kernel
theorem dX6_other_21 : decode cX6_other 21 = .ok (.getfield 81, 3) := by decide +kernel
theorem dX6_other_24 : decode cX6_other 24 = .ok (.ifCond .ne 23, 3) := by decide +kernel
theorem dX6_other_27 : decode cX6_other 27 = .ok (.aload_n 0, 1) := by decide +kernel
theorem dX6_other_28 : decode cX6_other 28 = .ok (.getfield 100, 3) := by decide +kernel
theorem dX6_other_31 : decode cX6_other 31 = .ok (.i2l, 1) := by decide +kernel
theorem dX6_other_32 : decode cX6_other 32 = .ok (.iload_n 1, 1) := by decide +kernel
theorem dX6_other_33 : decode cX6_other 33 = .ok (.i2l, 1) := by decide +kernel
theorem dX6_other_34 : decode cX6_other 34 = .ok (.iload_n 2, 1) := by decide +kernel
theorem dX6_other_35 : decode cX6_other 35 = .ok (.i2l, 1) := by decide +kernel
theorem dX6_other_36 : decode cX6_other 36 = .ok (.invokestatic 73, 3) := by decide +kernel
theorem dX6_other_39 : decode cX6_other 39 = .ok (.ifCond .ne 8, 3) := by decide +kernel
theorem dX6_other_42 : decode cX6_other 42 = .ok (.aload_n 0, 1) := by decide +kernel
theorem dX6_other_43 : decode cX6_other 43 = .ok (.iconst 3, 1) := by decide +kernel
theorem dX6_other_44 : decode cX6_other 44 = .ok (.invokevirtual 111, 3) := by decide +kernel
theorem dX6_other_47 : decode cX6_other 47 = .ok (.aload_n 0, 1) := by decide +kernel
theorem dX6_other_48 : decode cX6_other 48 = .ok (.getfield 81, 3) := by decide +kernel
theorem dX6_other_51 : decode cX6_other 51 = .ok (.ifCond .ne 24, 3) := by decide +kernel
theorem dX6_other_54 : decode cX6_other 54 = .ok (.iload_n 3, 1) := by decide +kernel
theorem dX6_other_55 : decode cX6_other 55 = .ok (.ifCond .eq 20, 3) := by decide +kernel
theorem dX6_other_58 : decode cX6_other 58 = .ok (.iload_n 3, 1) := by decide +kernel
theorem dX6_other_59 : decode cX6_other 59 = .ok (.aload_n 0, 1) := by decide +kernel
theorem dX6_other_60 : decode cX6_other 60 = .ok (.getfield 100, 3) := by decide +kernel
theorem dX6_other_63 : decode cX6_other 63 = .ok (.ishr, 1) := by decide +kernel
theorem dX6_other_64 : decode cX6_other 64 = .ok (.iconst 1, 1) := by decide +kernel
theorem dX6_other_65 : decode cX6_other 65 = .ok (.iand, 1) := by decide +kernel
theorem dX6_other_66 : decode cX6_other 66 = .ok (.iconst 1, 1) := by decide +kernel
theorem dX6_other_67 : decode cX6_other 67 = .ok (.if_icmp .ne 8, 3) := by decide +kernel
theorem dX6_other_70 : decode cX6_other 70 = .ok (.aload_n 0, 1) := by decide +kernel
theorem dX6_other_71 : decode cX6_other 71 = .ok (.iconst 4, 1) := by decide +kernel
theorem dX6_other_72 : decode cX6_other 72 = .ok (.invokevirtual 111, 3) := by decide +kernel
theorem dX6_other_75 : decode cX6_other 75 = .ok (.aload_n 0, 1) := by decide +kernel
theorem dX6_other_76 : decode cX6_other 76 = .ok (.getfield 81, 3) := by decide +kernel
theorem dX6_other_79 : decode cX6_other 79 = .ok (.ifCond .ne 10, 3) := by decide +kernel
theorem dX6_other_82 : decode cX6_other 82 = .ok (.aload_n 0, 1) := by decide +kernel
theorem dX6_other_83 : decode cX6_other 83 = .ok (.getfield 100, 3) := by decide +kernel
theorem dX6_other_86 : decode cX6_other 86 = .ok (.goto 4, 3) := by decide +kernel
theorem dX6_other_89 : decode cX6_other 89 = .ok (.iload_n 1, 1) := by decide +kernel
theorem dX6_other_90 : decode cX6_other 90 = .ok (.istore 4, 2) := by decide +kernel
theorem dX6_other_92 : decode cX6_other 92 = .ok (.aload_n 0, 1) := by decide +kernel
theorem dX6_other_93 : decode cX6_other 93 = .ok (.invokevirtual 115, 3) := by decide +kernel
theorem dX6_other_96 : decode cX6_other 96 = .ok (.iload 4, 2) := by decide +kernel
theorem dX6_other_98 : decode cX6_other 98 = .ok (.ireturn, 1) := by decide +kernel
theorem dX6_readTub_0 : decode cX6_readTub 0 = .ok (.aload_n 0, 1) := by decide +kernel
theorem dX6_readTub_1 : decode cX6_readTub 1 = .ok (.getfield 16, 3) := by decide +kernel
theorem dX6_readTub_4 : decode cX6_readTub 4 = .ok (.bipush 20, 2) := by decide +kernel
theorem dX6_readTub_6 : decode cX6_readTub 6 = .ok (.iaload, 1) := by decide +kernel
theorem dX6_readTub_7 : decode cX6_readTub 7 = .ok (.istore_n 2, 1) := by decide +kernel
theorem dX6_readTub_8 : decode cX6_readTub 8 = .ok (.aload_n 0, 1) := by decide +kernel
theorem dX6_readTub_9 : decode cX6_readTub 9 = .ok (.getfield 16, 3) := by decide +kernel
theorem dX6_readTub_12 : decode cX6_readTub 12 = .ok (.iload_n 2, 1) := by decide +kernel
theorem dX6_readTub_13 : decode cX6_readTub 13 = .ok (.iload_n 1, 1) := by decide +kernel
theorem dX6_readTub_14 : decode cX6_readTub 14 = .ok (.iastore, 1) := by decide +kernel
theorem dX6_readTub_15 : decode cX6_readTub 15 = .ok (.aload_n 0, 1) := by decide +kernel
theorem dX6_readTub_16 : decode cX6_readTub 16 = .ok (.getfield 16, 3) := by decide +kernel
theorem dX6_readTub_19 : decode cX6_readTub 19 = .ok (.iconst 4, 1) := by decide +kernel
theorem dX6_readTub_20 : decode cX6_readTub 20 = .ok (.iload_n 2, 1) := by decide +kernel
theorem dX6_readTub_21 : decode cX6_readTub 21 = .ok (.iadd, 1) := by decide +kernel
theorem dX6_readTub_22 : decode cX6_readTub 22 = .ok (.aload_n 0, 1) := by decide +kernel
theorem dX6_readTub_23 : decode cX6_readTub 23 = .ok (.iconst 0, 1) := by decide +kernel
theorem dX6_readTub_24 : decode cX6_readTub 24 = .ok (.bipush 9, 2) := by decide +kernel
theorem dX6_readTub_26 : decode cX6_readTub 26 = .ok (.iconst 0, 1) := by decide +kernel
theorem dX6_readTub_27 : decode cX6_readTub 27 = .ok (.invokevirtual 118, 3) := by decide +kernel
theorem dX6_readTub_30 : decode cX6_readTub 30 = .ok (.iastore, 1) := by decide +kernel
theorem dX6_readTub_31 : decode cX6_readTub 31 = .ok (.aload_n 0, 1) := by decide +kernel
theorem dX6_readTub_32 : decode cX6_readTub 32 = .ok (.getfield 16, 3) := by decide +kernel
theorem dX6_readTub_35 : decode cX6_readTub 35 = .ok (.bipush 8, 2) := by decide +kernel
theorem dX6_readTub_37 : decode cX6_readTub 37 = .ok (.iload_n 2, 1) := by decide +kernel
theorem dX6_readTub_38 : decode cX6_readTub 38 = .ok (.iadd, 1) := by decide +kernel
theorem dX6_readTub_39 : decode cX6_readTub 39 = .ok (.aload_n 0, 1) := by decide +kernel
theorem dX6_readTub_40 : decode cX6_readTub 40 = .ok (.iconst 1, 1) := by decide +kernel
theorem dX6_readTub_41 : decode cX6_readTub 41 = .ok (.bipush 9, 2) := by decide +kernel
theorem dX6_readTub_43 : decode cX6_readTub 43 = .ok (.iconst 0, 1) := by decide +kernel
theorem dX6_readTub_44 : decode cX6_readTub 44 = .ok (.invokevirtual 118, 3) := by decide +kernel
theorem dX6_readTub_47 : decode cX6_readTub 47 = .ok (.iastore, 1) := by decide +kernel
theorem dX6_readTub_48 : decode cX6_readTub 48 = .ok (.aload_n 0, 1) := by decide +kernel
theorem dX6_readTub_49 : decode cX6_readTub 49 = .ok (.getfield 16, 3) := by decide +kernel
theorem dX6_readTub_52 : decode cX6_readTub 52 = .ok (.bipush 12, 2) := by decide +kernel
theorem dX6_readTub_54 : decode cX6_readTub 54 = .ok (.iload_n 2, 1) := by decide +kernel
theorem dX6_readTub_55 : decode cX6_readTub 55 = .ok (.iadd, 1) := by decide +kernel
theorem dX6_readTub_56 : decode cX6_readTub 56 = .ok (.aload_n 0, 1) := by decide +kernel
theorem dX6_readTub_57 : decode cX6_readTub 57 = .ok (.iconst 0, 1) := by decide +kernel
theorem dX6_readTub_58 : decode cX6_readTub 58 = .ok (.bipush 23, 2) := by decide +kernel
theorem dX6_readTub_60 : decode cX6_readTub 60 = .ok (.iconst 0, 1) := by decide +kernel
theorem dX6_readTub_61 : decode cX6_readTub 61 = .ok (.invokevirtual 118, 3) := by decide +kernel
theorem dX6_readTub_64 : decode cX6_readTub 64 = .ok (.iastore, 1) := by decide +kernel
theorem dX6_readTub_65 : decode cX6_readTub 65 = .ok (.aload_n 0, 1) := by decide +kernel
theorem dX6_readTub_66 : decode cX6_readTub 66 = .ok (.getfield 16, 3) := by decide +kernel
theorem dX6_readTub_69 : decode cX6_readTub 69 = .ok (.bipush 16, 2) := by decide +kernel
theorem dX6_readTub_71 : decode cX6_readTub 71 = .ok (.iload_n 2, 1) := by decide +kernel
theorem dX6_readTub_72 : decode cX6_readTub 72 = .ok (.iadd, 1) := by decide +kernel
theorem dX6_readTub_73 : decode cX6_readTub 73 = .ok (.aload_n 0, 1) := by decide +kernel
theorem dX6_readTub_74 : decode cX6_readTub 74 = .ok (.iconst 1, 1) := by decide +kernel
theorem dX6_readTub_75 : decode cX6_readTub 75 = .ok (.bipush 99, 2) := by decide +kernel
theorem dX6_readTub_77 : decode cX6_readTub 77 = .ok (.iconst 0, 1) := by decide +kernel
theorem dX6_readTub_78 : decode cX6_readTub 78 = .ok (.invokevirtual 118, 3) := by decide +kernel
theorem dX6_readTub_81 : decode cX6_readTub 81 = .ok (.iastore, 1) := by decide +kernel
theorem dX6_readTub_82 : decode cX6_readTub 82 = .ok (.aload_n 0, 1) := by decide +kernel
theorem dX6_readTub_83 : decode cX6_readTub 83 = .ok (.getfield 16, 3) := by decide +kernel
theorem dX6_readTub_86 : decode cX6_readTub 86 = .ok (.bipush 20, 2) := by decide +kernel
theorem dX6_readTub_88 : decode cX6_readTub 88 = .ok (.dup2, 1) := by decide +kernel
theorem dX6_readTub_89 : decode cX6_readTub 89 = .ok (.iaload, 1) := by decide +kernel
theorem dX6_readTub_90 : decode cX6_readTub 90 = .ok (.iconst 1, 1) := by decide +kernel
theorem dX6_readTub_91 : decode cX6_readTub 91 = .ok (.iadd, 1) := by decide +kernel
theorem dX6_readTub_92 : decode cX6_readTub 92 = .ok (.iastore, 1) := by decide +kernel
theorem dX6_readTub_93 : decode cX6_readTub 93 = .ok (.return_, 1) := by decide +kernel
theorem dX6_readHeir_0 : decode cX6_readHeir 0 = .ok (.bipush 21, 2) := by decide +kernel
theorem dX6_readHeir_2 : decode cX6_readHeir 2 = .ok (.iconst 4, 1) := by decide +kernel
theorem dX6_readHeir_3 : decode cX6_readHeir 3 = .ok (.aload_n 0, 1) := by decide +kernel
theorem dX6_readHeir_4 : decode cX6_readHeir 4 = .ok (.getfield 122, 3) := by decide +kernel
theorem dX6_readHeir_7 : decode cX6_readHeir 7 = .ok (.imul, 1) := by decide +kernel
theorem dX6_readHeir_8 : decode cX6_readHeir 8 = .ok (.iadd, 1) := by decide +kernel
theorem dX6_readHeir_9 : decode cX6_readHeir 9 = .ok (.istore_n 1, 1) := by decide +kernel
theorem dX6_readHeir_10 : decode cX6_readHeir 10 = .ok (.aload_n 0, 1) := by decide +kernel
theorem dX6_readHeir_11 : decode cX6_readHeir 11 = .ok (.getfield 16, 3) := by decide +kernel
theorem dX6_readHeir_14 : decode cX6_readHeir 14 = .ok (.iload_n 1, 1) := by decide +kernel
theorem dX6_readHeir_15 : decode cX6_readHeir 15 = .ok (.aload_n 0, 1) := by decide +kernel
theorem dX6_readHeir_16 : decode cX6_readHeir 16 = .ok (.iconst 0, 1) := by decide +kernel
theorem dX6_readHeir_17 : decode cX6_readHeir 17 = .ok (.bipush 9, 2) := by decide +kernel
theorem dX6_readHeir_19 : decode cX6_readHeir 19 = .ok (.iconst 0, 1) := by decide +kernel
theorem dX6_readHeir_20 : decode cX6_readHeir 20 = .ok (.invokevirtual 118, 3) := by decide +kernel
theorem dX6_readHeir_23 : decode cX6_readHeir 23 = .ok (.iastore, 1) := by decide +kernel
theorem dX6_readHeir_24 : decode cX6_readHeir 24 = .ok (.aload_n 0, 1) := by decide +kernel
theorem dX6_readHeir_25 : decode cX6_readHeir 25 = .ok (.getfield 16, 3) := by decide +kernel
theorem dX6_readHeir_28 : decode cX6_readHeir 28 = .ok (.iload_n 1, 1) := by decide +kernel
theorem dX6_readHeir_29 : decode cX6_readHeir 29 = .ok (.iconst 1, 1) := by decide +kernel
theorem dX6_readHeir_30 : decode cX6_readHeir 30 = .ok (.iadd, 1) := by decide +kernel
theorem dX6_readHeir_31 : decode cX6_readHeir 31 = .ok (.aload_n 0, 1) := by decide +kernel
theorem dX6_readHeir_32 : decode cX6_readHeir 32 = .ok (.iconst 0, 1) := by decide +kernel
theorem dX6_readHeir_33 : decode cX6_readHeir 33 = .ok (.bipush 23, 2) := by decide +kernel
theorem dX6_readHeir_35 : decode cX6_readHeir 35 = .ok (.iconst 0, 1) := by decide +kernel
theorem dX6_readHeir_36 : decode cX6_readHeir 36 = .ok (.invokevirtual 118, 3) := by decide +kernel
theorem dX6_readHeir_39 : decode cX6_readHeir 39 = .ok (.iastore, 1) := by decide +kernel
theorem dX6_readHeir_40 : decode cX6_readHeir 40 = .ok (.aload_n 0, 1) := by decide +kernel
theorem dX6_readHeir_41 : decode cX6_readHeir 41 = .ok (.getfield 16, 3) := by decide +kernel
theorem dX6_readHeir_44 : decode cX6_readHeir 44 = .ok (.iload_n 1, 1) := by decide +kernel
theorem dX6_readHeir_45 : decode cX6_readHeir 45 = .ok (.iconst 2, 1) := by decide +kernel
theorem dX6_readHeir_46 : decode cX6_readHeir 46 = .ok (.iadd, 1) := by decide +kernel
theorem dX6_readHeir_47 : decode cX6_readHeir 47 = .ok (.aload_n 0, 1) := by decide +kernel
theorem dX6_readHeir_48 : decode cX6_readHeir 48 = .ok (.aload_n 0, 1) := by decide +kernel
theorem dX6_readHeir_49 : decode cX6_readHeir 49 = .ok (.getfield 16, 3) := by decide +kernel
theorem dX6_readHeir_52 : decode cX6_readHeir 52 = .ok (.iload_n 1, 1) := by decide +kernel
theorem dX6_readHeir_53 : decode cX6_readHeir 53 = .ok (.iconst 1, 1) := by decide +kernel
theorem dX6_readHeir_54 : decode cX6_readHeir 54 = .ok (.iadd, 1) := by decide +kernel
theorem dX6_readHeir_55 : decode cX6_readHeir 55 = .ok (.iaload, 1) := by decide +kernel
theorem dX6_readHeir_56 : decode cX6_readHeir 56 = .ok (.bipush 23, 2) := by decide +kernel
theorem dX6_readHeir_58 : decode cX6_readHeir 58 = .ok (.iconst 0, 1) := by decide +kernel
theorem dX6_readHeir_59 : decode cX6_readHeir 59 = .ok (.invokevirtual 118, 3) := by decide +kernel
theorem dX6_readHeir_62 : decode cX6_readHeir 62 = .ok (.iastore, 1) := by decide +kernel
theorem dX6_readHeir_63 : decode cX6_readHeir 63 = .ok (.aload_n 0, 1) := by decide +kernel
theorem dX6_readHeir_64 : decode cX6_readHeir 64 = .ok (.getfield 16, 3) := by decide +kernel
theorem dX6_readHeir_67 : decode cX6_readHeir 67 = .ok (.iload_n 1, 1) := by decide +kernel
theorem dX6_readHeir_68 : decode cX6_readHeir 68 = .ok (.iconst 3, 1) := by decide +kernel
theorem dX6_readHeir_69 : decode cX6_readHeir 69 = .ok (.iadd, 1) := by decide +kernel
theorem dX6_readHeir_70 : decode cX6_readHeir 70 = .ok (.aload_n 0, 1) := by decide +kernel
theorem dX6_readHeir_71 : decode cX6_readHeir 71 = .ok (.iconst 0, 1) := by decide +kernel
theorem dX6_readHeir_72 : decode cX6_readHeir 72 = .ok (.bipush 9, 2) := by decide +kernel
theorem dX6_readHeir_74 : decode cX6_readHeir 74 = .ok (.iconst 0, 1) := by decide +kernel
theorem dX6_readHeir_75 : decode cX6_readHeir 75 = .ok (.invokevirtual 118, 3) := by decide +kernel
theorem dX6_readHeir_78 : decode cX6_readHeir 78 = .ok (.iastore, 1) := by decide +kernel
theorem dX6_readHeir_79 : decode cX6_readHeir 79 = .ok (.aload_n 0, 1) := by decide +kernel
theorem dX6_readHeir_80 : decode cX6_readHeir 80 = .ok (.dup, 1) := by decide +kernel
theorem dX6_readHeir_81 : decode cX6_readHeir 81 = .ok (.getfield 122, 3) := by decide +kernel
theorem dX6_readHeir_84 : decode cX6_readHeir 84 = .ok (.iconst 1, 1) := by decide +kernel
theorem dX6_readHeir_85 : decode cX6_readHeir 85 = .ok (.iadd, 1) := by decide +kernel
theorem dX6_readHeir_86 : decode cX6_readHeir 86 = .ok (.putfield 122, 3) := by decide +kernel
theorem dX6_readHeir_89 : decode cX6_readHeir 89 = .ok (.return_, 1) := by decide +kernel
theorem dX6_readMore_0 : decode cX6_readMore 0 = .ok (.iload_n 1, 1) := by decide +kernel
theorem dX6_readMore_1 : decode cX6_readMore 1 = .ok (.iconst 3, 1) := by decide +kernel
theorem dX6_readMore_2 : decode cX6_readMore 2 = .ok (.if_icmp .gt 11, 3) := by decide +kernel
theorem dX6_readMore_5 : decode cX6_readMore 5 = .ok (.aload_n 0, 1) := by decide +kernel
theorem dX6_readMore_6 : decode cX6_readMore 6 = .ok (.iload_n 1, 1) := by decide +kernel
theorem dX6_readMore_7 : decode cX6_readMore 7 = .ok (.invokevirtual 125, 3) := by decide +kernel
theorem dX6_readMore_10 : decode cX6_readMore 10 = .ok (.goto 128, 3) := by decide +kernel
theorem dX6_readMore_13 : decode cX6_readMore 13 = .ok (.iload_n 1, 1) := by decide +kernel
theorem dX6_readMore_14 : decode cX6_readMore 14 = .ok (.iconst 4, 1) := by decide +kernel
theorem dX6_readMore_15 : decode cX6_readMore 15 = .ok (.if_icmp .ne 10, 3) := by decide +kernel
theorem dX6_readMore_18 : decode cX6_readMore 18 = .ok (.aload_n 0, 1) := by decide +kernel
theorem dX6_readMore_19 : decode cX6_readMore 19 = .ok (.invokevirtual 128, 3) := by decide +kernel
theorem dX6_readMore_22 : decode cX6_readMore 22 = .ok (.goto 116, 3) := by decide +kernel
theorem dX6_readMore_25 : decode cX6_readMore 25 = .ok (.iload_n 1, 1) := by decide +kernel
theorem dX6_readMore_26 : decode cX6_readMore 26 = .ok (.iconst 5, 1) := by decide +kernel
theorem dX6_readMore_27 : decode cX6_readMore 27 = .ok (.if_icmp .ne 48, 3) := by decide +kernel
theorem dX6_readMore_30 : decode cX6_readMore 30 = .ok (.aload_n 0, 1) := by decide +kernel
theorem dX6_readMore_31 : decode cX6_readMore 31 = .ok (.iconst 0, 1) := by decide +kernel
theorem dX6_readMore_32 : decode cX6_readMore 32 = .ok (.bipush 9, 2) := by decide +kernel
theorem dX6_readMore_34 : decode cX6_readMore 34 = .ok (.aload_n 0, 1) := by decide +kernel
theorem dX6_readMore_35 : decode cX6_readMore 35 = .ok (.getfield 131, 3) := by decide +kernel
theorem dX6_readMore_38 : decode cX6_readMore 38 = .ok (.invokevirtual 118, 3) := by decide +kernel
theorem dX6_readMore_41 : decode cX6_readMore 41 = .ok (.istore_n 2, 1) := by decide +kernel
theorem dX6_readMore_42 : decode cX6_readMore 42 = .ok (.aload_n 0, 1) := by decide +kernel
theorem dX6_readMore_43 : decode cX6_readMore 43 = .ok (.dup, 1) := by decide +kernel
theorem dX6_readMore_44 : decode cX6_readMore 44 = .ok (.getfield 131, 3) := by decide +kernel
theorem dX6_readMore_47 : decode cX6_readMore 47 = .ok (.iconst 1, 1) := by decide +kernel
theorem dX6_readMore_48 : decode cX6_readMore 48 = .ok (.iload_n 2, 1) := by decide +kernel
theorem dX6_readMore_49 : decode cX6_readMore 49 = .ok (.ishl, 1) := by decide +kernel
theorem dX6_readMore_50 : decode cX6_readMore 50 = .ok (.ior, 1) := by decide +kernel
theorem dX6_readMore_51 : decode cX6_readMore 51 = .ok (.putfield 131, 3) := by decide +kernel
theorem dX6_readMore_54 : decode cX6_readMore 54 = .ok (.aload_n 0, 1) := by decide +kernel
theorem dX6_readMore_55 : decode cX6_readMore 55 = .ok (.getfield 16, 3) := by decide +kernel
theorem dX6_readMore_58 : decode cX6_readMore 58 = .ok (.bipush 37, 2) := by decide +kernel
theorem dX6_readMore_60 : decode cX6_readMore 60 = .ok (.iload_n 2, 1) := by decide +kernel
theorem dX6_readMore_61 : decode cX6_readMore 61 = .ok (.iadd, 1) := by decide +kernel
theorem dX6_readMore_62 : decode cX6_readMore 62 = .ok (.aload_n 0, 1) := by decide +kernel
theorem dX6_readMore_63 : decode cX6_readMore 63 = .ok (.iconst 0, 1) := by decide +kernel
theorem dX6_readMore_64 : decode cX6_readMore 64 = .ok (.iconst 4, 1) := by decide +kernel
theorem dX6_readMore_65 : decode cX6_readMore 65 = .ok (.iconst 0, 1) := by decide +kernel
theorem dX6_readMore_66 : decode cX6_readMore 66 = .ok (.invokevirtual 118, 3) := by decide +kernel
theorem dX6_readMore_69 : decode cX6_readMore 69 = .ok (.iconst 2, 1) := by decide +kernel
theorem dX6_readMore_70 : decode cX6_readMore 70 = .ok (.isub, 1) := by decide +kernel
theorem dX6_readMore_71 : decode cX6_readMore 71 = .ok (.iastore, 1) := by decide +kernel
theorem dX6_readMore_72 : decode cX6_readMore 72 = .ok (.goto 66, 3) := by decide +kernel
theorem dX6_readMore_75 : decode cX6_readMore 75 = .ok (.iload_n 1, 1) := by decide +kernel
theorem dX6_readMore_76 : decode cX6_readMore 76 = .ok (.bipush 6, 2) := by decide +kernel
theorem dX6_readMore_78 : decode cX6_readMore 78 = .ok (.if_icmp .ne 46, 3) := by decide +kernel
theorem dX6_readMore_81 : decode cX6_readMore 81 = .ok (.aload_n 0, 1) := by decide +kernel
theorem dX6_readMore_82 : decode cX6_readMore 82 = .ok (.iconst 0, 1) := by decide +kernel
theorem dX6_readMore_83 : decode cX6_readMore 83 = .ok (.bipush 23, 2) := by decide +kernel
theorem dX6_readMore_85 : decode cX6_readMore 85 = .ok (.aload_n 0, 1) := by decide +kernel
theorem dX6_readMore_86 : decode cX6_readMore 86 = .ok (.getfield 134, 3) := by decide +kernel
theorem dX6_readMore_89 : decode cX6_readMore 89 = .ok (.invokevirtual 118, 3) := by decide +kernel
theorem dX6_readMore_92 : decode cX6_readMore 92 = .ok (.istore_n 2, 1) := by decide +kernel
theorem dX6_readMore_93 : decode cX6_readMore 93 = .ok (.aload_n 0, 1) := by decide +kernel
theorem dX6_readMore_94 : decode cX6_readMore 94 = .ok (.dup, 1) := by decide +kernel
theorem dX6_readMore_95 : decode cX6_readMore 95 = .ok (.getfield 134, 3) := by decide +kernel
theorem dX6_readMore_98 : decode cX6_readMore 98 = .ok (.iconst 1, 1) := by decide +kernel
theorem dX6_readMore_99 : decode cX6_readMore 99 = .ok (.iload_n 2, 1) := by decide +kernel
theorem dX6_readMore_100 : decode cX6_readMore 100 = .ok (.ishl, 1) := by decide +kernel
theorem dX6_readMore_101 : decode cX6_readMore 101 = .ok (.ior, 1) := by decide +kernel
theorem dX6_readMore_102 : decode cX6_readMore 102 = .ok (.putfield 134, 3) := by decide +kernel
theorem dX6_readMore_105 : decode cX6_readMore 105 = .ok (.aload_n 0, 1) := by decide +kernel
theorem dX6_readMore_106 : decode cX6_readMore 106 = .ok (.getfield 16, 3) := by decide +kernel
theorem dX6_readMore_109 : decode cX6_readMore 109 = .ok (.bipush 47, 2) := by decide +kernel
theorem dX6_readMore_111 : decode cX6_readMore 111 = .ok (.iload_n 2, 1) := by decide +kernel
theorem dX6_readMore_112 : decode cX6_readMore 112 = .ok (.iadd, 1) := by decide +kernel
theorem dX6_readMore_113 : decode cX6_readMore 113 = .ok (.aload_n 0, 1) := by decide +kernel
theorem dX6_readMore_114 : decode cX6_readMore 114 = .ok (.iconst 0, 1) := by decide +kernel
theorem dX6_readMore_115 : decode cX6_readMore 115 = .ok (.iconst 4, 1) := by decide +kernel
theorem dX6_readMore_116 : decode cX6_readMore 116 = .ok (.iconst 0, 1) := by decide +kernel
theorem dX6_readMore_117 : decode cX6_readMore 117 = .ok (.invokevirtual 118, 3) := by decide +kernel
theorem dX6_readMore_120 : decode cX6_readMore 120 = .ok (.iastore, 1) := by decide +kernel
theorem dX6_readMore_121 : decode cX6_readMore 121 = .ok (.goto 17, 3) := by decide +kernel
theorem dX6_readMore_124 : decode cX6_readMore 124 = .ok (.aload_n 0, 1) := by decide +kernel
theorem dX6_readMore_125 : decode cX6_readMore 125 = .ok (.getfield 16, 3) := by decide +kernel
theorem dX6_readMore_128 : decode cX6_readMore 128 = .ok (.bipush 71, 2) := by decide +kernel
theorem dX6_readMore_130 : decode cX6_readMore 130 = .ok (.aload_n 0, 1) := by decide +kernel
theorem dX6_readMore_131 : decode cX6_readMore 131 = .ok (.iconst 0, 1) := by decide +kernel
theorem dX6_readMore_132 : decode cX6_readMore 132 = .ok (.iconst 5, 1) := by decide +kernel
theorem dX6_readMore_133 : decode cX6_readMore 133 = .ok (.iconst 0, 1) := by decide +kernel
theorem dX6_readMore_134 : decode cX6_readMore 134 = .ok (.invokevirtual 118, 3) := by decide +kernel
theorem dX6_readMore_137 : decode cX6_readMore 137 = .ok (.iastore, 1) := by decide +kernel
theorem dX6_readMore_138 : decode cX6_readMore 138 = .ok (.return_, 1) := by decide +kernel
theorem dX6_readLine_0 : decode cX6_readLine 0 = .ok (.aload_n 0, 1) := by decide +kernel
theorem dX6_readLine_1 : decode cX6_readLine 1 = .ok (.invokevirtual 137, 3) := by decide +kernel
theorem dX6_readLine_4 : decode cX6_readLine 4 = .ok (.istore_n 1, 1) := by decide +kernel
theorem dX6_readLine_5 : decode cX6_readLine 5 = .ok (.iload_n 1, 1) := by decide +kernel
theorem dX6_readLine_6 : decode cX6_readLine 6 = .ok (.i2l, 1) := by decide +kernel
theorem dX6_readLine_7 : decode cX6_readLine 7 = .ok (.lconst 0, 1) := by decide +kernel
theorem dX6_readLine_8 : decode cX6_readLine 8 = .ok (.ldc2_w 141, 3) := by decide +kernel
theorem dX6_readLine_11 : decode cX6_readLine 11 = .ok (.invokestatic 73, 3) := by decide +kernel
theorem dX6_readLine_14 : decode cX6_readLine 14 = .ok (.ifCond .ne 9, 3) := by decide +kernel
theorem dX6_readLine_17 : decode cX6_readLine 17 = .ok (.aload_n 0, 1) := by decide +kernel
theorem dX6_readLine_18 : decode cX6_readLine 18 = .ok (.iconst 2, 1) := by decide +kernel
theorem dX6_readLine_19 : decode cX6_readLine 19 = .ok (.invokevirtual 111, 3) := by decide +kernel
theorem dX6_readLine_22 : decode cX6_readLine 22 = .ok (.return_, 1) := by decide +kernel
theorem dX6_readLine_23 : decode cX6_readLine 23 = .ok (.iload_n 1, 1) := by decide +kernel
theorem dX6_readLine_24 : decode cX6_readLine 24 = .ok (.iconst 3, 1) := by decide +kernel
theorem dX6_readLine_25 : decode cX6_readLine 25 = .ok (.if_icmp .gt 14, 3) := by decide +kernel
theorem dX6_readLine_28 : decode cX6_readLine 28 = .ok (.aload_n 0, 1) := by decide +kernel
theorem dX6_readLine_29 : decode cX6_readLine 29 = .ok (.getfield 16, 3) := by decide +kernel
theorem dX6_readLine_32 : decode cX6_readLine 32 = .ok (.bipush 20, 2) := by decide +kernel
theorem dX6_readLine_34 : decode cX6_readLine 34 = .ok (.iaload, 1) := by decide +kernel
theorem dX6_readLine_35 : decode cX6_readLine 35 = .ok (.iconst 4, 1) := by decide +kernel
theorem dX6_readLine_36 : decode cX6_readLine 36 = .ok (.if_icmp .eq 16, 3) := by decide +kernel
theorem dX6_readLine_39 : decode cX6_readLine 39 = .ok (.iload_n 1, 1) := by decide +kernel
theorem dX6_readLine_40 : decode cX6_readLine 40 = .ok (.iconst 4, 1) := by decide +kernel
theorem dX6_readLine_41 : decode cX6_readLine 41 = .ok (.if_icmp .ne 16, 3) := by decide +kernel
theorem dX6_readLine_44 : decode cX6_readLine 44 = .ok (.aload_n 0, 1) := by decide +kernel
theorem dX6_readLine_45 : decode cX6_readLine 45 = .ok (.getfield 122, 3) := by decide +kernel
theorem dX6_readLine_48 : decode cX6_readLine 48 = .ok (.iconst 4, 1) := by decide +kernel
theorem dX6_readLine_49 : decode cX6_readLine 49 = .ok (.if_icmp .ne 8, 3) := by decide +kernel
theorem dX6_readLine_52 : decode cX6_readLine 52 = .ok (.aload_n 0, 1) := by decide +kernel
theorem dX6_readLine_53 : decode cX6_readLine 53 = .ok (.iconst 5, 1) := by decide +kernel
theorem dX6_readLine_54 : decode cX6_readLine 54 = .ok (.invokevirtual 111, 3) := by decide +kernel
theorem dX6_readLine_57 : decode cX6_readLine 57 = .ok (.iload_n 1, 1) := by decide +kernel
theorem dX6_readLine_58 : decode cX6_readLine 58 = .ok (.bipush 7, 2) := by decide +kernel
theorem dX6_readLine_60 : decode cX6_readLine 60 = .ok (.if_icmp .ne 15, 3) := by decide +kernel
theorem dX6_readLine_63 : decode cX6_readLine 63 = .ok (.aload_n 0, 1) := by decide +kernel
theorem dX6_readLine_64 : decode cX6_readLine 64 = .ok (.getfield 143, 3) := by decide +kernel
theorem dX6_readLine_67 : decode cX6_readLine 67 = .ok (.ifCond .eq 8, 3) := by decide +kernel
theorem dX6_readLine_70 : decode cX6_readLine 70 = .ok (.aload_n 0, 1) := by decide +kernel
theorem dX6_readLine_71 : decode cX6_readLine 71 = .ok (.iconst 4, 1) := by decide +kernel
theorem dX6_readLine_72 : decode cX6_readLine 72 = .ok (.invokevirtual 111, 3) := by decide +kernel
theorem dX6_readLine_75 : decode cX6_readLine 75 = .ok (.aload_n 0, 1) := by decide +kernel
theorem dX6_readLine_76 : decode cX6_readLine 76 = .ok (.aload_n 0, 1) := by decide +kernel
theorem dX6_readLine_77 : decode cX6_readLine 77 = .ok (.getfield 143, 3) := by decide +kernel
theorem dX6_readLine_80 : decode cX6_readLine 80 = .ok (.ifCond .ne 9, 3) := by decide +kernel
theorem dX6_readLine_83 : decode cX6_readLine 83 = .ok (.iload_n 1, 1) := by decide +kernel
theorem dX6_readLine_84 : decode cX6_readLine 84 = .ok (.bipush 7, 2) := by decide +kernel
theorem dX6_readLine_86 : decode cX6_readLine 86 = .ok (.if_icmp .ne 7, 3) := by decide +kernel
theorem dX6_readLine_89 : decode cX6_readLine 89 = .ok (.iconst 1, 1) := by decide +kernel
theorem dX6_readLine_90 : decode cX6_readLine 90 = .ok (.goto 4, 3) := by decide +kernel
theorem dX6_readLine_93 : decode cX6_readLine 93 = .ok (.iconst 0, 1) := by decide +kernel
theorem dX6_readLine_94 : decode cX6_readLine 94 = .ok (.putfield 143, 3) := by decide +kernel
theorem dX6_readLine_97 : decode cX6_readLine 97 = .ok (.aload_n 0, 1) := by decide +kernel
theorem dX6_readLine_98 : decode cX6_readLine 98 = .ok (.invokevirtual 115, 3) := by decide +kernel
theorem dX6_readLine_101 : decode cX6_readLine 101 = .ok (.aload_n 0, 1) := by decide +kernel
theorem dX6_readLine_102 : decode cX6_readLine 102 = .ok (.getfield 81, 3) := by decide +kernel
theorem dX6_readLine_105 : decode cX6_readLine 105 = .ok (.ifCond .le 4, 3) := by decide +kernel
theorem dX6_readLine_108 : decode cX6_readLine 108 = .ok (.return_, 1) := by decide +kernel
theorem dX6_readLine_109 : decode cX6_readLine 109 = .ok (.aload_n 0, 1) := by decide +kernel
theorem dX6_readLine_110 : decode cX6_readLine 110 = .ok (.iload_n 1, 1) := by decide +kernel
theorem dX6_readLine_111 : decode cX6_readLine 111 = .ok (.invokevirtual 147, 3) := by decide +kernel
theorem dX6_readLine_114 : decode cX6_readLine 114 = .ok (.aload_n 0, 1) := by decide +kernel
theorem dX6_readLine_115 : decode cX6_readLine 115 = .ok (.getfield 81, 3) := by decide +kernel
theorem dX6_readLine_118 : decode cX6_readLine 118 = .ok (.ifCond .ne 16, 3) := by decide +kernel
theorem dX6_readLine_121 : decode cX6_readLine 121 = .ok (.aload_n 0, 1) := by decide +kernel
theorem dX6_readLine_122 : decode cX6_readLine 122 = .ok (.getfield 90, 3) := by decide +kernel
theorem dX6_readLine_125 : decode cX6_readLine 125 = .ok (.iconst 3, 1) := by decide +kernel
theorem dX6_readLine_126 : decode cX6_readLine 126 = .ok (.if_icmp .eq 8, 3) := by decide +kernel
theorem dX6_readLine_129 : decode cX6_readLine 129 = .ok (.aload_n 0, 1) := by decide +kernel
theorem dX6_readLine_130 : decode cX6_readLine 130 = .ok (.iconst 2, 1) := by decide +kernel
theorem dX6_readLine_131 : decode cX6_readLine 131 = .ok (.invokevirtual 111, 3) := by decide +kernel
theorem dX6_readLine_134 : decode cX6_readLine 134 = .ok (.aload_n 0, 1) := by decide +kernel
theorem dX6_readLine_135 : decode cX6_readLine 135 = .ok (.invokevirtual 115, 3) := by decide +kernel
theorem dX6_readLine_138 : decode cX6_readLine 138 = .ok (.return_, 1) := by decide +kernel
theorem dX6_text_0 : decode cX6_text 0 = .ok (.aload_n 0, 1) := by decide +kernel
theorem dX6_text_1 : decode cX6_text 1 = .ok (.iconst 0, 1) := by decide +kernel
theorem dX6_text_2 : decode cX6_text 2 = .ok (.putfield 81, 3) := by decide +kernel
theorem dX6_text_5 : decode cX6_text 5 = .ok (.aload_n 0, 1) := by decide +kernel
theorem dX6_text_6 : decode cX6_text 6 = .ok (.iconst 0, 1) := by decide +kernel
theorem dX6_text_7 : decode cX6_text 7 = .ok (.putfield 93, 3) := by decide +kernel
theorem dX6_text_10 : decode cX6_text 10 = .ok (.aload_n 0, 1) := by decide +kernel
theorem dX6_text_11 : decode cX6_text 11 = .ok (.iconst 0, 1) := by decide +kernel
theorem dX6_text_12 : decode cX6_text 12 = .ok (.putfield 122, 3) := by decide +kernel
theorem dX6_text_15 : decode cX6_text 15 = .ok (.aload_n 0, 1) := by decide +kernel
theorem dX6_text_16 : decode cX6_text 16 = .ok (.iconst 0, 1) := by decide +kernel
theorem dX6_text_17 : decode cX6_text 17 = .ok (.putfield 131, 3) := by decide +kernel
theorem dX6_text_20 : decode cX6_text 20 = .ok (.aload_n 0, 1) := by decide +kernel
theorem dX6_text_21 : decode cX6_text 21 = .ok (.iconst 0, 1) := by decide +kernel
theorem dX6_text_22 : decode cX6_text 22 = .ok (.putfield 134, 3) := by decide +kernel
theorem dX6_text_25 : decode cX6_text 25 = .ok (.aload_n 0, 1) := by decide +kernel
theorem dX6_text_26 : decode cX6_text 26 = .ok (.iconst 0, 1) := by decide +kernel
theorem dX6_text_27 : decode cX6_text 27 = .ok (.putfield 143, 3) := by decide +kernel
theorem dX6_text_30 : decode cX6_text 30 = .ok (.iconst 0, 1) := by decide +kernel
theorem dX6_text_31 : decode cX6_text 31 = .ok (.istore_n 1, 1) := by decide +kernel
theorem dX6_text_32 : decode cX6_text 32 = .ok (.iconst 0, 1) := by decide +kernel
theorem dX6_text_33 : decode cX6_text 33 = .ok (.istore_n 2, 1) := by decide +kernel
theorem dX6_text_34 : decode cX6_text 34 = .ok (.iload_n 2, 1) := by decide +kernel
theorem dX6_text_35 : decode cX6_text 35 = .ok (.bipush 72, 2) := by decide +kernel
theorem dX6_text_37 : decode cX6_text 37 = .ok (.if_icmp .ge 16, 3) := by decide +kernel
theorem dX6_text_40 : decode cX6_text 40 = .ok (.aload_n 0, 1) := by decide +kernel
theorem dX6_text_41 : decode cX6_text 41 = .ok (.getfield 16, 3) := by decide +kernel
theorem dX6_text_44 : decode cX6_text 44 = .ok (.iload_n 2, 1) := by decide +kernel
theorem dX6_text_45 : decode cX6_text 45 = .ok (.iconst 0, 1) := by decide +kernel
theorem dX6_text_46 : decode cX6_text 46 = .ok (.iastore, 1) := by decide +kernel
theorem dX6_text_47 : decode cX6_text 47 = .ok (.iinc 2 1, 3) := by decide +kernel
theorem dX6_text_50 : decode cX6_text 50 = .ok (.goto (-16), 3) := by decide +kernel
theorem dX6_text_53 : decode cX6_text 53 = .ok (.aload_n 0, 1) := by decide +kernel
theorem dX6_text_54 : decode cX6_text 54 = .ok (.invokevirtual 115, 3) := by decide +kernel
theorem dX6_text_57 : decode cX6_text 57 = .ok (.aload_n 0, 1) := by decide +kernel
theorem dX6_text_58 : decode cX6_text 58 = .ok (.getfield 81, 3) := by decide +kernel
theorem dX6_text_61 : decode cX6_text 61 = .ok (.ifCond .ne 20, 3) := by decide +kernel
theorem dX6_text_64 : decode cX6_text 64 = .ok (.aload_n 0, 1) := by decide +kernel
theorem dX6_text_65 : decode cX6_text 65 = .ok (.getfield 90, 3) := by decide +kernel
theorem dX6_text_68 : decode cX6_text 68 = .ok (.ifCond .eq 13, 3) := by decide +kernel
theorem dX6_text_71 : decode cX6_text 71 = .ok (.aload_n 0, 1) := by decide +kernel
theorem dX6_text_72 : decode cX6_text 72 = .ok (.invokevirtual 150, 3) := by decide +kernel
theorem dX6_text_75 : decode cX6_text 75 = .ok (.iinc 1 1, 3) := by decide +kernel
theorem dX6_text_78 : decode cX6_text 78 = .ok (.goto (-21), 3) := by decide +kernel
theorem dX6_text_81 : decode cX6_text 81 = .ok (.aload_n 0, 1) := by decide +kernel
theorem dX6_text_82 : decode cX6_text 82 = .ok (.iconst 0, 1) := by decide +kernel
theorem dX6_text_83 : decode cX6_text 83 = .ok (.putfield 77, 3) := by decide +kernel
theorem dX6_text_86 : decode cX6_text 86 = .ok (.aload_n 0, 1) := by decide +kernel
theorem dX6_text_87 : decode cX6_text 87 = .ok (.aload_n 0, 1) := by decide +kernel
theorem dX6_text_88 : decode cX6_text 88 = .ok (.getfield 81, 3) := by decide +kernel
theorem dX6_text_91 : decode cX6_text 91 = .ok (.putfield 153, 3) := by decide +kernel
theorem dX6_text_94 : decode cX6_text 94 = .ok (.aload_n 0, 1) := by decide +kernel
theorem dX6_text_95 : decode cX6_text 95 = .ok (.getfield 81, 3) := by decide +kernel
theorem dX6_text_98 : decode cX6_text 98 = .ok (.ifCond .le 11, 3) := by decide +kernel
theorem dX6_text_101 : decode cX6_text 101 = .ok (.bipush (-10), 2) := by decide +kernel
theorem dX6_text_103 : decode cX6_text 103 = .ok (.aload_n 0, 1) := by decide +kernel
theorem dX6_text_104 : decode cX6_text 104 = .ok (.getfield 87, 3) := by decide +kernel
theorem dX6_text_107 : decode cX6_text 107 = .ok (.isub, 1) := by decide +kernel
theorem dX6_text_108 : decode cX6_text 108 = .ok (.ireturn, 1) := by decide +kernel
theorem dX6_text_109 : decode cX6_text 109 = .ok (.iconst 0, 1) := by decide +kernel
theorem dX6_text_110 : decode cX6_text 110 = .ok (.istore_n 2, 1) := by decide +kernel
theorem dX6_text_111 : decode cX6_text 111 = .ok (.iload_n 2, 1) := by decide +kernel
theorem dX6_text_112 : decode cX6_text 112 = .ok (.bipush 72, 2) := by decide +kernel
theorem dX6_text_114 : decode cX6_text 114 = .ok (.if_icmp .ge 21, 3) := by decide +kernel
theorem dX6_text_117 : decode cX6_text 117 = .ok (.aload_n 0, 1) := by decide +kernel
theorem dX6_text_118 : decode cX6_text 118 = .ok (.getfield 7, 3) := by decide +kernel
theorem dX6_text_121 : decode cX6_text 121 = .ok (.iload_n 2, 1) := by decide +kernel
theorem dX6_text_122 : decode cX6_text 122 = .ok (.aload_n 0, 1) := by decide +kernel
theorem dX6_text_123 : decode cX6_text 123 = .ok (.getfield 16, 3) := by decide +kernel
theorem dX6_text_126 : decode cX6_text 126 = .ok (.iload_n 2, 1) := by decide +kernel
theorem dX6_text_127 : decode cX6_text 127 = .ok (.iaload, 1) := by decide +kernel
theorem dX6_text_128 : decode cX6_text 128 = .ok (.iastore, 1) := by decide +kernel
theorem dX6_text_129 : decode cX6_text 129 = .ok (.iinc 2 1, 3) := by decide +kernel
theorem dX6_text_132 : decode cX6_text 132 = .ok (.goto (-21), 3) := by decide +kernel
theorem dX6_text_135 : decode cX6_text 135 = .ok (.aload_n 0, 1) := by decide +kernel
theorem dX6_text_136 : decode cX6_text 136 = .ok (.aload_n 0, 1) := by decide +kernel
theorem dX6_text_137 : decode cX6_text 137 = .ok (.getfield 122, 3) := by decide +kernel
theorem dX6_text_140 : decode cX6_text 140 = .ok (.putfield 156, 3) := by decide +kernel
theorem dX6_text_143 : decode cX6_text 143 = .ok (.aload_n 0, 1) := by decide +kernel
theorem dX6_text_144 : decode cX6_text 144 = .ok (.iconst 0, 1) := by decide +kernel
theorem dX6_text_145 : decode cX6_text 145 = .ok (.putfield 159, 3) := by decide +kernel
theorem dX6_text_148 : decode cX6_text 148 = .ok (.aload_n 0, 1) := by decide +kernel
theorem dX6_text_149 : decode cX6_text 149 = .ok (.getfield 58, 3) := by decide +kernel
theorem dX6_text_152 : decode cX6_text 152 = .ok (.iconst 0, 1) := by decide +kernel
theorem dX6_text_153 : decode cX6_text 153 = .ok (.iconst 0, 1) := by decide +kernel
theorem dX6_text_154 : decode cX6_text 154 = .ok (.bastore, 1) := by decide +kernel
theorem dX6_text_155 : decode cX6_text 155 = .ok (.aload_n 0, 1) := by decide +kernel
theorem dX6_text_156 : decode cX6_text 156 = .ok (.getfield 58, 3) := by decide +kernel
theorem dX6_text_159 : decode cX6_text 159 = .ok (.iconst 1, 1) := by decide +kernel
theorem dX6_text_160 : decode cX6_text 160 = .ok (.iconst 0, 1) := by decide +kernel
theorem dX6_text_161 : decode cX6_text 161 = .ok (.bastore, 1) := by decide +kernel
theorem dX6_text_162 : decode cX6_text 162 = .ok (.iload_n 1, 1) := by decide +kernel
theorem dX6_text_163 : decode cX6_text 163 = .ok (.ireturn, 1) := by decide +kernel
theorem dX6_fault_0 : decode cX6_fault 0 = .ok (.aload_n 0, 1) := by decide +kernel
theorem dX6_fault_1 : decode cX6_fault 1 = .ok (.getfield 153, 3) := by decide +kernel
theorem dX6_fault_4 : decode cX6_fault 4 = .ok (.ireturn, 1) := by decide +kernel
theorem dX6_isTub_0 : decode cX6_isTub 0 = .ok (.iload_n 1, 1) := by decide +kernel
theorem dX6_isTub_1 : decode cX6_isTub 1 = .ok (.i2l, 1) := by decide +kernel
theorem dX6_isTub_2 : decode cX6_isTub 2 = .ok (.lconst 0, 1) := by decide +kernel
theorem dX6_isTub_3 : decode cX6_isTub 3 = .ok (.aload_n 0, 1) := by decide +kernel
theorem dX6_isTub_4 : decode cX6_isTub 4 = .ok (.getfield 7, 3) := by decide +kernel
theorem dX6_isTub_7 : decode cX6_isTub 7 = .ok (.bipush 20, 2) := by decide +kernel
theorem dX6_isTub_9 : decode cX6_isTub 9 = .ok (.iaload, 1) := by decide +kernel
theorem dX6_isTub_10 : decode cX6_isTub 10 = .ok (.iconst 1, 1) := by decide +kernel
theorem dX6_isTub_11 : decode cX6_isTub 11 = .ok (.isub, 1) := by decide +kernel
theorem dX6_isTub_12 : decode cX6_isTub 12 = .ok (.i2l, 1) := by decide +kernel
theorem dX6_isTub_13 : decode cX6_isTub 13 = .ok (.invokestatic 73, 3) := by decide +kernel
theorem dX6_isTub_16 : decode cX6_isTub 16 = .ok (.ireturn, 1) := by decide +kernel
theorem dX6_isHeir_0 : decode cX6_isHeir 0 = .ok (.iload_n 1, 1) := by decide +kernel
theorem dX6_isHeir_1 : decode cX6_isHeir 1 = .ok (.i2l, 1) := by decide +kernel
theorem dX6_isHeir_2 : decode cX6_isHeir 2 = .ok (.lconst 0, 1) := by decide +kernel
theorem dX6_isHeir_3 : decode cX6_isHeir 3 = .ok (.aload_n 0, 1) := by decide +kernel
theorem dX6_isHeir_4 : decode cX6_isHeir 4 = .ok (.getfield 156, 3) := by decide +kernel
theorem dX6_isHeir_7 : decode cX6_isHeir 7 = .ok (.iconst 1, 1) := by decide +kernel
theorem dX6_isHeir_8 : decode cX6_isHeir 8 = .ok (.isub, 1) := by decide +kernel
theorem dX6_isHeir_9 : decode cX6_isHeir 9 = .ok (.i2l, 1) := by decide +kernel
theorem dX6_isHeir_10 : decode cX6_isHeir 10 = .ok (.invokestatic 73, 3) := by decide +kernel
theorem dX6_isHeir_13 : decode cX6_isHeir 13 = .ok (.ireturn, 1) := by decide +kernel
theorem dX6_isHour_0 : decode cX6_isHour 0 = .ok (.iload_n 0, 1) := by decide +kernel
theorem dX6_isHour_1 : decode cX6_isHour 1 = .ok (.i2l, 1) := by decide +kernel
theorem dX6_isHour_2 : decode cX6_isHour 2 = .ok (.lconst 0, 1) := by decide +kernel
theorem dX6_isHour_3 : decode cX6_isHour 3 = .ok (.ldc2_w 162, 3) := by decide +kernel
theorem dX6_isHour_6 : decode cX6_isHour 6 = .ok (.invokestatic 73, 3) := by decide +kernel
theorem dX6_isHour_9 : decode cX6_isHour 9 = .ok (.ireturn, 1) := by decide +kernel
theorem dX6_estates_0 : decode cX6_estates 0 = .ok (.iconst 0, 1) := by decide +kernel
theorem dX6_estates_1 : decode cX6_estates 1 = .ok (.istore_n 1, 1) := by decide +kernel
theorem dX6_estates_2 : decode cX6_estates 2 = .ok (.iconst 0, 1) := by decide +kernel
theorem dX6_estates_3 : decode cX6_estates 3 = .ok (.istore_n 2, 1) := by decide +kernel
theorem dX6_estates_4 : decode cX6_estates 4 = .ok (.iload_n 2, 1) := by decide +kernel
theorem dX6_estates_5 : decode cX6_estates 5 = .ok (.aload_n 0, 1) := by decide +kernel
theorem dX6_estates_6 : decode cX6_estates 6 = .ok (.getfield 7, 3) := by decide +kernel
theorem dX6_estates_9 : decode cX6_estates 9 = .ok (.bipush 20, 2) := by decide +kernel
theorem dX6_estates_11 : decode cX6_estates 11 = .ok (.iaload, 1) := by decide +kernel
theorem dX6_estates_12 : decode cX6_estates 12 = .ok (.if_icmp .ge 21, 3) := by decide +kernel
theorem dX6_estates_15 : decode cX6_estates 15 = .ok (.iload_n 1, 1) := by decide +kernel
theorem dX6_estates_16 : decode cX6_estates 16 = .ok (.aload_n 0, 1) := by decide +kernel
theorem dX6_estates_17 : decode cX6_estates 17 = .ok (.getfield 7, 3) := by decide +kernel
theorem dX6_estates_20 : decode cX6_estates 20 = .ok (.bipush 16, 2) := by decide +kernel
theorem dX6_estates_22 : decode cX6_estates 22 = .ok (.iload_n 2, 1) := by decide +kernel
theorem dX6_estates_23 : decode cX6_estates 23 = .ok (.iadd, 1) := by decide +kernel
theorem dX6_estates_24 : decode cX6_estates 24 = .ok (.iaload, 1) := by decide +kernel
theorem dX6_estates_25 : decode cX6_estates 25 = .ok (.iadd, 1) := by decide +kernel
theorem dX6_estates_26 : decode cX6_estates 26 = .ok (.istore_n 1, 1) := by decide +kernel
theorem dX6_estates_27 : decode cX6_estates 27 = .ok (.iinc 2 1, 3) := by decide +kernel
theorem dX6_estates_30 : decode cX6_estates 30 = .ok (.goto (-26), 3) := by decide +kernel
theorem dX6_estates_33 : decode cX6_estates 33 = .ok (.iload_n 1, 1) := by decide +kernel
theorem dX6_estates_34 : decode cX6_estates 34 = .ok (.ireturn, 1) := by decide +kernel
theorem dX6_windyHours_0 : decode cX6_windyHours 0 = .ok (.iconst 0, 1) := by decide +kernel
theorem dX6_windyHours_1 : decode cX6_windyHours 1 = .ok (.istore_n 1, 1) := by decide +kernel
theorem dX6_windyHours_2 : decode cX6_windyHours 2 = .ok (.iconst 0, 1) := by decide +kernel
theorem dX6_windyHours_3 : decode cX6_windyHours 3 = .ok (.istore_n 2, 1) := by decide +kernel
theorem dX6_windyHours_4 : decode cX6_windyHours 4 = .ok (.iload_n 2, 1) := by decide +kernel
theorem dX6_windyHours_5 : decode cX6_windyHours 5 = .ok (.bipush 24, 2) := by decide +kernel
theorem dX6_windyHours_7 : decode cX6_windyHours 7 = .ok (.if_icmp .ge 31, 3) := by decide +kernel
theorem dX6_windyHours_10 : decode cX6_windyHours 10 = .ok (.iload_n 1, 1) := by decide +kernel
theorem dX6_windyHours_11 : decode cX6_windyHours 11 = .ok (.aload_n 0, 1) := by decide +kernel
theorem dX6_windyHours_12 : decode cX6_windyHours 12 = .ok (.getfield 7, 3) := by decide +kernel
theorem dX6_windyHours_15 : decode cX6_windyHours 15 = .ok (.bipush 47, 2) := by decide +kernel
theorem dX6_windyHours_17 : decode cX6_windyHours 17 = .ok (.iload_n 2, 1) := by decide +kernel
theorem dX6_windyHours_18 : decode cX6_windyHours 18 = .ok (.iadd, 1) := by decide +kernel
theorem dX6_windyHours_19 : decode cX6_windyHours 19 = .ok (.iaload, 1) := by decide +kernel
theorem dX6_windyHours_20 : decode cX6_windyHours 20 = .ok (.ifCond .le 9, 3) := by decide +kernel
theorem dX6_windyHours_23 : decode cX6_windyHours 23 = .ok (.iconst 1, 1) := by decide +kernel
theorem dX6_windyHours_24 : decode cX6_windyHours 24 = .ok (.iload_n 2, 1) := by decide +kernel
theorem dX6_windyHours_25 : decode cX6_windyHours 25 = .ok (.ishl, 1) := by decide +kernel
theorem dX6_windyHours_26 : decode cX6_windyHours 26 = .ok (.goto 4, 3) := by decide +kernel
theorem dX6_windyHours_29 : decode cX6_windyHours 29 = .ok (.iconst 0, 1) := by decide +kernel
theorem dX6_windyHours_30 : decode cX6_windyHours 30 = .ok (.ior, 1) := by decide +kernel
theorem dX6_windyHours_31 : decode cX6_windyHours 31 = .ok (.istore_n 1, 1) := by decide +kernel
theorem dX6_windyHours_32 : decode cX6_windyHours 32 = .ok (.iinc 2 1, 3) := by decide +kernel
theorem dX6_windyHours_35 : decode cX6_windyHours 35 = .ok (.goto (-31), 3) := by decide +kernel
theorem dX6_windyHours_38 : decode cX6_windyHours 38 = .ok (.iload_n 1, 1) := by decide +kernel
theorem dX6_windyHours_39 : decode cX6_windyHours 39 = .ok (.ireturn, 1) := by decide +kernel
theorem dX6_bitsOf_0 : decode cX6_bitsOf 0 = .ok (.iconst 0, 1) := by decide +kernel
theorem dX6_bitsOf_1 : decode cX6_bitsOf 1 = .ok (.istore_n 1, 1) := by decide +kernel
theorem dX6_bitsOf_2 : decode cX6_bitsOf 2 = .ok (.iload_n 0, 1) := by decide +kernel
theorem dX6_bitsOf_3 : decode cX6_bitsOf 3 = .ok (.istore_n 2, 1) := by decide +kernel
theorem dX6_bitsOf_4 : decode cX6_bitsOf 4 = .ok (.iload_n 2, 1) := by decide +kernel
theorem dX6_bitsOf_5 : decode cX6_bitsOf 5 = .ok (.ifCond .le 16, 3) := by decide +kernel
theorem dX6_bitsOf_8 : decode cX6_bitsOf 8 = .ok (.iload_n 1, 1) := by decide +kernel
theorem dX6_bitsOf_9 : decode cX6_bitsOf 9 = .ok (.iload_n 2, 1) := by decide +kernel
theorem dX6_bitsOf_10 : decode cX6_bitsOf 10 = .ok (.iconst 1, 1) := by decide +kernel
theorem dX6_bitsOf_11 : decode cX6_bitsOf 11 = .ok (.iand, 1) := by decide +kernel
theorem dX6_bitsOf_12 : decode cX6_bitsOf 12 = .ok (.iadd, 1) := by decide +kernel
theorem dX6_bitsOf_13 : decode cX6_bitsOf 13 = .ok (.istore_n 1, 1) := by decide +kernel
theorem dX6_bitsOf_14 : decode cX6_bitsOf 14 = .ok (.iload_n 2, 1) := by decide +kernel
theorem dX6_bitsOf_15 : decode cX6_bitsOf 15 = .ok (.iconst 1, 1) := by decide +kernel
theorem dX6_bitsOf_16 : decode cX6_bitsOf 16 = .ok (.ishr, 1) := by decide +kernel
theorem dX6_bitsOf_17 : decode cX6_bitsOf 17 = .ok (.istore_n 2, 1) := by decide +kernel
theorem dX6_bitsOf_18 : decode cX6_bitsOf 18 = .ok (.goto (-14), 3) := by decide +kernel
theorem dX6_bitsOf_21 : decode cX6_bitsOf 21 = .ok (.iload_n 1, 1) := by decide +kernel
theorem dX6_bitsOf_22 : decode cX6_bitsOf 22 = .ok (.ireturn, 1) := by decide +kernel
theorem dX6_rule_0 : decode cX6_rule 0 = .ok (.iload_n 1, 1) := by decide +kernel
theorem dX6_rule_1 : decode cX6_rule 1 = .ok (.tableswitch 69 0 4 #[35, 43, 48, 56, 61], 35) := by decide +kernel
theorem dX6_rule_36 : decode cX6_rule 36 = .ok (.aload_n 0, 1) := by decide +kernel
theorem dX6_rule_37 : decode cX6_rule 37 = .ok (.getfield 7, 3) := by decide +kernel
theorem dX6_rule_40 : decode cX6_rule 40 = .ok (.bipush 20, 2) := by decide +kernel
theorem dX6_rule_42 : decode cX6_rule 42 = .ok (.iaload, 1) := by decide +kernel
theorem dX6_rule_43 : decode cX6_rule 43 = .ok (.ireturn, 1) := by decide +kernel
theorem dX6_rule_44 : decode cX6_rule 44 = .ok (.aload_n 0, 1) := by decide +kernel
theorem dX6_rule_45 : decode cX6_rule 45 = .ok (.getfield 156, 3) := by decide +kernel
theorem dX6_rule_48 : decode cX6_rule 48 = .ok (.ireturn, 1) := by decide +kernel
theorem dX6_rule_49 : decode cX6_rule 49 = .ok (.aload_n 0, 1) := by decide +kernel
theorem dX6_rule_50 : decode cX6_rule 50 = .ok (.getfield 7, 3) := by decide +kernel
theorem dX6_rule_53 : decode cX6_rule 53 = .ok (.bipush 71, 2) := by decide +kernel
theorem dX6_rule_55 : decode cX6_rule 55 = .ok (.iaload, 1) := by decide +kernel
theorem dX6_rule_56 : decode cX6_rule 56 = .ok (.ireturn, 1) := by decide +kernel
theorem dX6_rule_57 : decode cX6_rule 57 = .ok (.aload_n 0, 1) := by decide +kernel
theorem dX6_rule_58 : decode cX6_rule 58 = .ok (.invokevirtual 164, 3) := by decide +kernel
theorem dX6_rule_61 : decode cX6_rule 61 = .ok (.ireturn, 1) := by decide +kernel
theorem dX6_rule_62 : decode cX6_rule 62 = .ok (.aload_n 0, 1) := by decide +kernel
theorem dX6_rule_63 : decode cX6_rule 63 = .ok (.invokevirtual 167, 3) := by decide +kernel
theorem dX6_rule_66 : decode cX6_rule 66 = .ok (.invokestatic 170, 3) := by decide +kernel
theorem dX6_rule_69 : decode cX6_rule 69 = .ok (.ireturn, 1) := by decide +kernel
theorem dX6_rule_70 : decode cX6_rule 70 = .ok (.iconst (-1), 1) := by decide +kernel
theorem dX6_rule_71 : decode cX6_rule 71 = .ok (.ireturn, 1) := by decide +kernel
theorem dX6_tub_0 : decode cX6_tub 0 = .ok (.aload_n 0, 1) := by decide +kernel
theorem dX6_tub_1 : decode cX6_tub 1 = .ok (.iload_n 1, 1) := by decide +kernel
theorem dX6_tub_2 : decode cX6_tub 2 = .ok (.invokevirtual 173, 3) := by decide +kernel
theorem dX6_tub_5 : decode cX6_tub 5 = .ok (.ifCond .eq 15, 3) := by decide +kernel
theorem dX6_tub_8 : decode cX6_tub 8 = .ok (.iload_n 2, 1) := by decide +kernel
theorem dX6_tub_9 : decode cX6_tub 9 = .ok (.i2l, 1) := by decide +kernel
theorem dX6_tub_10 : decode cX6_tub 10 = .ok (.lconst 0, 1) := by decide +kernel
theorem dX6_tub_11 : decode cX6_tub 11 = .ok (.ldc2_w 177, 3) := by decide +kernel
theorem dX6_tub_14 : decode cX6_tub 14 = .ok (.invokestatic 73, 3) := by decide +kernel
theorem dX6_tub_17 : decode cX6_tub 17 = .ok (.ifCond .ne 7, 3) := by decide +kernel
theorem dX6_tub_20 : decode cX6_tub 20 = .ok (.iconst (-1), 1) := by decide +kernel
theorem dX6_tub_21 : decode cX6_tub 21 = .ok (.goto 32, 3) := by decide +kernel
theorem dX6_tub_24 : decode cX6_tub 24 = .ok (.iload_n 2, 1) := by decide +kernel
theorem dX6_tub_25 : decode cX6_tub 25 = .ok (.iconst 5, 1) := by decide +kernel
theorem dX6_tub_26 : decode cX6_tub 26 = .ok (.if_icmp .ne 17, 3) := by decide +kernel
theorem dX6_tub_29 : decode cX6_tub 29 = .ok (.aload_n 0, 1) := by decide +kernel
theorem dX6_tub_30 : decode cX6_tub 30 = .ok (.getfield 13, 3) := by decide +kernel
theorem dX6_tub_33 : decode cX6_tub 33 = .ok (.aload_n 0, 1) := by decide +kernel
theorem dX6_tub_34 : decode cX6_tub 34 = .ok (.getfield 7, 3) := by decide +kernel
theorem dX6_tub_37 : decode cX6_tub 37 = .ok (.iload_n 1, 1) := by decide +kernel
theorem dX6_tub_38 : decode cX6_tub 38 = .ok (.iaload, 1) := by decide +kernel
theorem dX6_tub_39 : decode cX6_tub 39 = .ok (.iaload, 1) := by decide +kernel
theorem dX6_tub_40 : decode cX6_tub 40 = .ok (.goto 13, 3) := by decide +kernel
theorem dX6_tub_43 : decode cX6_tub 43 = .ok (.aload_n 0, 1) := by decide +kernel
theorem dX6_tub_44 : decode cX6_tub 44 = .ok (.getfield 7, 3) := by decide +kernel
theorem dX6_tub_47 : decode cX6_tub 47 = .ok (.iconst 4, 1) := by decide +kernel
theorem dX6_tub_48 : decode cX6_tub 48 = .ok (.iload_n 2, 1) := by decide +kernel
theorem dX6_tub_49 : decode cX6_tub 49 = .ok (.imul, 1) := by decide +kernel
theorem dX6_tub_50 : decode cX6_tub 50 = .ok (.iload_n 1, 1) := by decide +kernel
theorem dX6_tub_51 : decode cX6_tub 51 = .ok (.iadd, 1) := by decide +kernel
theorem dX6_tub_52 : decode cX6_tub 52 = .ok (.iaload, 1) := by decide +kernel
theorem dX6_tub_53 : decode cX6_tub 53 = .ok (.ireturn, 1) := by decide +kernel
theorem dX6_heir_0 : decode cX6_heir 0 = .ok (.aload_n 0, 1) := by decide +kernel
theorem dX6_heir_1 : decode cX6_heir 1 = .ok (.iload_n 1, 1) := by decide +kernel
theorem dX6_heir_2 : decode cX6_heir 2 = .ok (.invokevirtual 179, 3) := by decide +kernel
theorem dX6_heir_5 : decode cX6_heir 5 = .ok (.ifCond .eq 31, 3) := by decide +kernel
theorem dX6_heir_8 : decode cX6_heir 8 = .ok (.iload_n 2, 1) := by decide +kernel
theorem dX6_heir_9 : decode cX6_heir 9 = .ok (.i2l, 1) := by decide +kernel
theorem dX6_heir_10 : decode cX6_heir 10 = .ok (.lconst 0, 1) := by decide +kernel
theorem dX6_heir_11 : decode cX6_heir 11 = .ok (.ldc2_w 182, 3) := by decide +kernel
theorem dX6_heir_14 : decode cX6_heir 14 = .ok (.invokestatic 73, 3) := by decide +kernel
theorem dX6_heir_17 : decode cX6_heir 17 = .ok (.ifCond .eq 19, 3) := by decide +kernel
theorem dX6_heir_20 : decode cX6_heir 20 = .ok (.aload_n 0, 1) := by decide +kernel
theorem dX6_heir_21 : decode cX6_heir 21 = .ok (.getfield 7, 3) := by decide +kernel
theorem dX6_heir_24 : decode cX6_heir 24 = .ok (.bipush 21, 2) := by decide +kernel
theorem dX6_heir_26 : decode cX6_heir 26 = .ok (.iconst 4, 1) := by decide +kernel
theorem dX6_heir_27 : decode cX6_heir 27 = .ok (.iload_n 1, 1) := by decide +kernel
theorem dX6_heir_28 : decode cX6_heir 28 = .ok (.imul, 1) := by decide +kernel
theorem dX6_heir_29 : decode cX6_heir 29 = .ok (.iadd, 1) := by decide +kernel
theorem dX6_heir_30 : decode cX6_heir 30 = .ok (.iload_n 2, 1) := by decide +kernel
theorem dX6_heir_31 : decode cX6_heir 31 = .ok (.iadd, 1) := by decide +kernel
theorem dX6_heir_32 : decode cX6_heir 32 = .ok (.iaload, 1) := by decide +kernel
theorem dX6_heir_33 : decode cX6_heir 33 = .ok (.goto 4, 3) := by decide +kernel
theorem dX6_heir_36 : decode cX6_heir 36 = .ok (.iconst (-1), 1) := by decide +kernel
theorem dX6_heir_37 : decode cX6_heir 37 = .ok (.ireturn, 1) := by decide +kernel
theorem dX6_current_0 : decode cX6_current 0 = .ok (.iload_n 1, 1) := by decide +kernel
theorem dX6_current_1 : decode cX6_current 1 = .ok (.i2l, 1) := by decide +kernel
theorem dX6_current_2 : decode cX6_current 2 = .ok (.lconst 0, 1) := by decide +kernel
theorem dX6_current_3 : decode cX6_current 3 = .ok (.ldc2_w 184, 3) := by decide +kernel
theorem dX6_current_6 : decode cX6_current 6 = .ok (.invokestatic 73, 3) := by decide +kernel
theorem dX6_current_9 : decode cX6_current 9 = .ok (.ifCond .eq 17, 3) := by decide +kernel
theorem dX6_current_12 : decode cX6_current 12 = .ok (.aload_n 0, 1) := by decide +kernel
theorem dX6_current_13 : decode cX6_current 13 = .ok (.getfield 7, 3) := by decide +kernel
theorem dX6_current_16 : decode cX6_current 16 = .ok (.bipush 37, 2) := by decide +kernel
theorem dX6_current_18 : decode cX6_current 18 = .ok (.iload_n 1, 1) := by decide +kernel
theorem dX6_current_19 : decode cX6_current 19 = .ok (.iadd, 1) := by decide +kernel
theorem dX6_current_20 : decode cX6_current 20 = .ok (.iaload, 1) := by decide +kernel
theorem dX6_current_21 : decode cX6_current 21 = .ok (.iconst 2, 1) := by decide +kernel
theorem dX6_current_22 : decode cX6_current 22 = .ok (.iadd, 1) := by decide +kernel
theorem dX6_current_23 : decode cX6_current 23 = .ok (.goto 4, 3) := by decide +kernel
theorem dX6_current_26 : decode cX6_current 26 = .ok (.iconst (-1), 1) := by decide +kernel
theorem dX6_current_27 : decode cX6_current 27 = .ok (.ireturn, 1) := by decide +kernel
theorem dX6_wind_0 : decode cX6_wind 0 = .ok (.iload_n 1, 1) := by decide +kernel
theorem dX6_wind_1 : decode cX6_wind 1 = .ok (.invokestatic 186, 3) := by decide +kernel
theorem dX6_wind_4 : decode cX6_wind 4 = .ok (.ifCond .eq 15, 3) := by decide +kernel
theorem dX6_wind_7 : decode cX6_wind 7 = .ok (.aload_n 0, 1) := by decide +kernel
theorem dX6_wind_8 : decode cX6_wind 8 = .ok (.getfield 7, 3) := by decide +kernel
theorem dX6_wind_11 : decode cX6_wind 11 = .ok (.bipush 47, 2) := by decide +kernel
theorem dX6_wind_13 : decode cX6_wind 13 = .ok (.iload_n 1, 1) := by decide +kernel
theorem dX6_wind_14 : decode cX6_wind 14 = .ok (.iadd, 1) := by decide +kernel
theorem dX6_wind_15 : decode cX6_wind 15 = .ok (.iaload, 1) := by decide +kernel
theorem dX6_wind_16 : decode cX6_wind 16 = .ok (.goto 4, 3) := by decide +kernel
theorem dX6_wind_19 : decode cX6_wind 19 = .ok (.iconst (-1), 1) := by decide +kernel
theorem dX6_wind_20 : decode cX6_wind 20 = .ok (.ireturn, 1) := by decide +kernel
theorem dX6_puts_0 : decode cX6_puts 0 = .ok (.iload_n 1, 1) := by decide +kernel
theorem dX6_puts_1 : decode cX6_puts 1 = .ok (.ifCond .ne 5, 3) := by decide +kernel
theorem dX6_puts_4 : decode cX6_puts 4 = .ok (.iconst (-1), 1) := by decide +kernel
theorem dX6_puts_5 : decode cX6_puts 5 = .ok (.ireturn, 1) := by decide +kernel
theorem dX6_puts_6 : decode cX6_puts 6 = .ok (.aload_n 0, 1) := by decide +kernel
theorem dX6_puts_7 : decode cX6_puts 7 = .ok (.getfield 7, 3) := by decide +kernel
theorem dX6_puts_10 : decode cX6_puts 10 = .ok (.iload_n 2, 1) := by decide +kernel
theorem dX6_puts_11 : decode cX6_puts 11 = .ok (.iaload, 1) := by decide +kernel
theorem dX6_puts_12 : decode cX6_puts 12 = .ok (.iload 4, 2) := by decide +kernel
theorem dX6_puts_14 : decode cX6_puts 14 = .ok (.iadd, 1) := by decide +kernel
theorem dX6_puts_15 : decode cX6_puts 15 = .ok (.istore 5, 2) := by decide +kernel
theorem dX6_puts_17 : decode cX6_puts 17 = .ok (.aload_n 0, 1) := by decide +kernel
theorem dX6_puts_18 : decode cX6_puts 18 = .ok (.getfield 7, 3) := by decide +kernel
theorem dX6_puts_21 : decode cX6_puts 21 = .ok (.iload_n 2, 1) := by decide +kernel
theorem dX6_puts_22 : decode cX6_puts 22 = .ok (.iload_n 3, 1) := by decide +kernel
theorem dX6_puts_23 : decode cX6_puts 23 = .ok (.iload 4, 2) := by decide +kernel
theorem dX6_puts_25 : decode cX6_puts 25 = .ok (.isub, 1) := by decide +kernel
theorem dX6_puts_26 : decode cX6_puts 26 = .ok (.iastore, 1) := by decide +kernel
theorem dX6_puts_27 : decode cX6_puts 27 = .ok (.iload 5, 2) := by decide +kernel
theorem dX6_puts_29 : decode cX6_puts 29 = .ok (.ireturn, 1) := by decide +kernel
theorem dX6_alter_0 : decode cX6_alter 0 = .ok (.iload_n 2, 1) := by decide +kernel
theorem dX6_alter_1 : decode cX6_alter 1 = .ok (.iconst 2, 1) := by decide +kernel
theorem dX6_alter_2 : decode cX6_alter 2 = .ok (.if_icmp .eq 8, 3) := by decide +kernel
theorem dX6_alter_5 : decode cX6_alter 5 = .ok (.iload_n 2, 1) := by decide +kernel
theorem dX6_alter_6 : decode cX6_alter 6 = .ok (.iconst 4, 1) := by decide +kernel
theorem dX6_alter_7 : decode cX6_alter 7 = .ok (.if_icmp .ne 7, 3) := by decide +kernel
theorem dX6_alter_10 : decode cX6_alter 10 = .ok (.iconst 1, 1) := by decide +kernel
theorem dX6_alter_11 : decode cX6_alter 11 = .ok (.goto 4, 3) := by decide +kernel
theorem dX6_alter_14 : decode cX6_alter 14 = .ok (.iconst 0, 1) := by decide +kernel
theorem dX6_alter_15 : decode cX6_alter 15 = .ok (.istore 4, 2) := by decide +kernel
theorem dX6_alter_17 : decode cX6_alter 17 = .ok (.iload_n 2, 1) := by decide +kernel
theorem dX6_alter_18 : decode cX6_alter 18 = .ok (.ifCond .ne 7, 3) := by decide +kernel
theorem dX6_alter_21 : decode cX6_alter 21 = .ok (.iconst 3, 1) := by decide +kernel
theorem dX6_alter_22 : decode cX6_alter 22 = .ok (.goto 25, 3) := by decide +kernel
theorem dX6_alter_25 : decode cX6_alter 25 = .ok (.iload_n 2, 1) := by decide +kernel
theorem dX6_alter_26 : decode cX6_alter 26 = .ok (.iconst 3, 1) := by decide +kernel
theorem dX6_alter_27 : decode cX6_alter 27 = .ok (.if_icmp .ge 8, 3) := by decide +kernel
theorem dX6_alter_30 : decode cX6_alter 30 = .ok (.bipush 9, 2) := by decide +kernel
theorem dX6_alter_32 : decode cX6_alter 32 = .ok (.goto 15, 3) := by decide +kernel
theorem dX6_alter_35 : decode cX6_alter 35 = .ok (.iload_n 2, 1) := by decide +kernel
theorem dX6_alter_36 : decode cX6_alter 36 = .ok (.iconst 3, 1) := by decide +kernel
theorem dX6_alter_37 : decode cX6_alter 37 = .ok (.if_icmp .ne 8, 3) := by decide +kernel
theorem dX6_alter_40 : decode cX6_alter 40 = .ok (.bipush 23, 2) := by decide +kernel
theorem dX6_alter_42 : decode cX6_alter 42 = .ok (.goto 5, 3) := by decide +kernel
theorem dX6_alter_45 : decode cX6_alter 45 = .ok (.bipush 99, 2) := by decide +kernel
theorem dX6_alter_47 : decode cX6_alter 47 = .ok (.istore 5, 2) := by decide +kernel
theorem dX6_alter_49 : decode cX6_alter 49 = .ok (.aload_n 0, 1) := by decide +kernel
theorem dX6_alter_50 : decode cX6_alter 50 = .ok (.aload_n 0, 1) := by decide +kernel
theorem dX6_alter_51 : decode cX6_alter 51 = .ok (.iload_n 1, 1) := by decide +kernel
theorem dX6_alter_52 : decode cX6_alter 52 = .ok (.invokevirtual 173, 3) := by decide +kernel
theorem dX6_alter_55 : decode cX6_alter 55 = .ok (.ifCond .eq 33, 3) := by decide +kernel
theorem dX6_alter_58 : decode cX6_alter 58 = .ok (.iload_n 2, 1) := by decide +kernel
theorem dX6_alter_59 : decode cX6_alter 59 = .ok (.i2l, 1) := by decide +kernel
theorem dX6_alter_60 : decode cX6_alter 60 = .ok (.lconst 0, 1) := by decide +kernel
theorem dX6_alter_61 : decode cX6_alter 61 = .ok (.ldc2_w 189, 3) := by decide +kernel
theorem dX6_alter_64 : decode cX6_alter 64 = .ok (.invokestatic 73, 3) := by decide +kernel
theorem dX6_alter_67 : decode cX6_alter 67 = .ok (.ifCond .eq 21, 3) := by decide +kernel
theorem dX6_alter_70 : decode cX6_alter 70 = .ok (.iload_n 3, 1) := by decide +kernel
theorem dX6_alter_71 : decode cX6_alter 71 = .ok (.i2l, 1) := by decide +kernel
theorem dX6_alter_72 : decode cX6_alter 72 = .ok (.iload 4, 2) := by decide +kernel
theorem dX6_alter_74 : decode cX6_alter 74 = .ok (.i2l, 1) := by decide +kernel
theorem dX6_alter_75 : decode cX6_alter 75 = .ok (.iload 5, 2) := by decide +kernel
theorem dX6_alter_77 : decode cX6_alter 77 = .ok (.i2l, 1) := by decide +kernel
theorem dX6_alter_78 : decode cX6_alter 78 = .ok (.invokestatic 73, 3) := by decide +kernel
theorem dX6_alter_81 : decode cX6_alter 81 = .ok (.ifCond .eq 7, 3) := by decide +kernel
theorem dX6_alter_84 : decode cX6_alter 84 = .ok (.iconst 1, 1) := by decide +kernel
theorem dX6_alter_85 : decode cX6_alter 85 = .ok (.goto 4, 3) := by decide +kernel
theorem dX6_alter_88 : decode cX6_alter 88 = .ok (.iconst 0, 1) := by decide +kernel
theorem dX6_alter_89 : decode cX6_alter 89 = .ok (.iconst 4, 1) := by decide +kernel
theorem dX6_alter_90 : decode cX6_alter 90 = .ok (.iload_n 2, 1) := by decide +kernel
theorem dX6_alter_91 : decode cX6_alter 91 = .ok (.imul, 1) := by decide +kernel
theorem dX6_alter_92 : decode cX6_alter 92 = .ok (.iload_n 1, 1) := by decide +kernel
theorem dX6_alter_93 : decode cX6_alter 93 = .ok (.iadd, 1) := by decide +kernel
theorem dX6_alter_94 : decode cX6_alter 94 = .ok (.iload_n 3, 1) := by decide +kernel
theorem dX6_alter_95 : decode cX6_alter 95 = .ok (.iconst 0, 1) := by decide +kernel
theorem dX6_alter_96 : decode cX6_alter 96 = .ok (.invokevirtual 191, 3) := by decide +kernel
theorem dX6_alter_99 : decode cX6_alter 99 = .ok (.ireturn, 1) := by decide +kernel
theorem dX6_stand_0 : decode cX6_stand 0 = .ok (.aload_n 0, 1) := by decide +kernel
theorem dX6_stand_1 : decode cX6_stand 1 = .ok (.iload_n 1, 1) := by decide +kernel
theorem dX6_stand_2 : decode cX6_stand 2 = .ok (.invokevirtual 179, 3) := by decide +kernel
theorem dX6_stand_5 : decode cX6_stand 5 = .ok (.ifCond .eq 15, 3) := by decide +kernel
theorem dX6_stand_8 : decode cX6_stand 8 = .ok (.iload_n 2, 1) := by decide +kernel
theorem dX6_stand_9 : decode cX6_stand 9 = .ok (.i2l, 1) := by decide +kernel
theorem dX6_stand_10 : decode cX6_stand 10 = .ok (.lconst 0, 1) := by decide +kernel
theorem dX6_stand_11 : decode cX6_stand 11 = .ok (.ldc2_w 182, 3) := by decide +kernel
theorem dX6_stand_14 : decode cX6_stand 14 = .ok (.invokestatic 73, 3) := by decide +kernel
theorem dX6_stand_17 : decode cX6_stand 17 = .ok (.ifCond .ne 5, 3) := by decide +kernel
theorem dX6_stand_20 : decode cX6_stand 20 = .ok (.iconst (-1), 1) := by decide +kernel
theorem dX6_stand_21 : decode cX6_stand 21 = .ok (.ireturn, 1) := by decide +kernel
theorem dX6_stand_22 : decode cX6_stand 22 = .ok (.bipush 21, 2) := by decide +kernel
theorem dX6_stand_24 : decode cX6_stand 24 = .ok (.iconst 4, 1) := by decide +kernel
theorem dX6_stand_25 : decode cX6_stand 25 = .ok (.iload_n 1, 1) := by decide +kernel
theorem dX6_stand_26 : decode cX6_stand 26 = .ok (.imul, 1) := by decide +kernel
theorem dX6_stand_27 : decode cX6_stand 27 = .ok (.iadd, 1) := by decide +kernel
theorem dX6_stand_28 : decode cX6_stand 28 = .ok (.istore 4, 2) := by decide +kernel
theorem dX6_stand_30 : decode cX6_stand 30 = .ok (.iload_n 2, 1) := by decide +kernel
theorem dX6_stand_31 : decode cX6_stand 31 = .ok (.iconst 2, 1) := by decide +kernel
theorem dX6_stand_32 : decode cX6_stand 32 = .ok (.if_icmp .ne 15, 3) := by decide +kernel
theorem dX6_stand_35 : decode cX6_stand 35 = .ok (.aload_n 0, 1) := by decide +kernel
theorem dX6_stand_36 : decode cX6_stand 36 = .ok (.getfield 7, 3) := by decide +kernel
theorem dX6_stand_39 : decode cX6_stand 39 = .ok (.iload 4, 2) := by decide +kernel
theorem dX6_stand_41 : decode cX6_stand 41 = .ok (.iconst 1, 1) := by decide +kernel
theorem dX6_stand_42 : decode cX6_stand 42 = .ok (.iadd, 1) := by decide +kernel
theorem dX6_stand_43 : decode cX6_stand 43 = .ok (.iaload, 1) := by decide +kernel
theorem dX6_stand_44 : decode cX6_stand 44 = .ok (.goto 4, 3) := by decide +kernel
theorem dX6_stand_47 : decode cX6_stand 47 = .ok (.iconst 0, 1) := by decide +kernel
theorem dX6_stand_48 : decode cX6_stand 48 = .ok (.istore 5, 2) := by decide +kernel
theorem dX6_stand_50 : decode cX6_stand 50 = .ok (.iload_n 2, 1) := by decide +kernel
theorem dX6_stand_51 : decode cX6_stand 51 = .ok (.iconst 1, 1) := by decide +kernel
theorem dX6_stand_52 : decode cX6_stand 52 = .ok (.if_icmp .ne 15, 3) := by decide +kernel
theorem dX6_stand_55 : decode cX6_stand 55 = .ok (.aload_n 0, 1) := by decide +kernel
theorem dX6_stand_56 : decode cX6_stand 56 = .ok (.getfield 7, 3) := by decide +kernel
theorem dX6_stand_59 : decode cX6_stand 59 = .ok (.iload 4, 2) := by decide +kernel
theorem dX6_stand_61 : decode cX6_stand 61 = .ok (.iconst 2, 1) := by decide +kernel
theorem dX6_stand_62 : decode cX6_stand 62 = .ok (.iadd, 1) := by decide +kernel
theorem dX6_stand_63 : decode cX6_stand 63 = .ok (.iaload, 1) := by decide +kernel
theorem dX6_stand_64 : decode cX6_stand 64 = .ok (.goto 15, 3) := by decide +kernel
theorem dX6_stand_67 : decode cX6_stand 67 = .ok (.iload_n 2, 1) := by decide +kernel
theorem dX6_stand_68 : decode cX6_stand 68 = .ok (.iconst 2, 1) := by decide +kernel
theorem dX6_stand_69 : decode cX6_stand 69 = .ok (.if_icmp .ne 8, 3) := by decide +kernel
theorem dX6_stand_72 : decode cX6_stand 72 = .ok (.bipush 23, 2) := by decide +kernel
theorem dX6_stand_74 : decode cX6_stand 74 = .ok (.goto 5, 3) := by decide +kernel
theorem dX6_stand_77 : decode cX6_stand 77 = .ok (.bipush 9, 2) := by decide +kernel
theorem dX6_stand_79 : decode cX6_stand 79 = .ok (.istore 6, 2) := by decide +kernel
theorem dX6_stand_81 : decode cX6_stand 81 = .ok (.aload_n 0, 1) := by decide +kernel
theorem dX6_stand_82 : decode cX6_stand 82 = .ok (.iload_n 3, 1) := by decide +kernel
theorem dX6_stand_83 : decode cX6_stand 83 = .ok (.i2l, 1) := by decide +kernel
theorem dX6_stand_84 : decode cX6_stand 84 = .ok (.iload 5, 2) := by decide +kernel
theorem dX6_stand_86 : decode cX6_stand 86 = .ok (.i2l, 1) := by decide +kernel
theorem dX6_stand_87 : decode cX6_stand 87 = .ok (.iload 6, 2) := by decide +kernel
theorem dX6_stand_89 : decode cX6_stand 89 = .ok (.i2l, 1) := by decide +kernel
theorem dX6_stand_90 : decode cX6_stand 90 = .ok (.invokestatic 73, 3) := by decide +kernel
theorem dX6_stand_93 : decode cX6_stand 93 = .ok (.iload 4, 2) := by decide +kernel
theorem dX6_stand_95 : decode cX6_stand 95 = .ok (.iload_n 2, 1) := by decide +kernel
theorem dX6_stand_96 : decode cX6_stand 96 = .ok (.iadd, 1) := by decide +kernel
theorem dX6_stand_97 : decode cX6_stand 97 = .ok (.iload_n 3, 1) := by decide +kernel
theorem dX6_stand_98 : decode cX6_stand 98 = .ok (.iconst 0, 1) := by decide +kernel
theorem dX6_stand_99 : decode cX6_stand 99 = .ok (.invokevirtual 191, 3) := by decide +kernel
theorem dX6_stand_102 : decode cX6_stand 102 = .ok (.ireturn, 1) := by decide +kernel
theorem dX6_set_0 : decode cX6_set 0 = .ok (.aload_n 0, 1) := by decide +kernel
theorem dX6_set_1 : decode cX6_set 1 = .ok (.iload_n 1, 1) := by decide +kernel
theorem dX6_set_2 : decode cX6_set 2 = .ok (.i2l, 1) := by decide +kernel
theorem dX6_set_3 : decode cX6_set 3 = .ok (.lconst 0, 1) := by decide +kernel
theorem dX6_set_4 : decode cX6_set 4 = .ok (.ldc2_w 184, 3) := by decide +kernel
theorem dX6_set_7 : decode cX6_set 7 = .ok (.invokestatic 73, 3) := by decide +kernel
theorem dX6_set_10 : decode cX6_set 10 = .ok (.ifCond .eq 19, 3) := by decide +kernel
theorem dX6_set_13 : decode cX6_set 13 = .ok (.iload_n 2, 1) := by decide +kernel
theorem dX6_set_14 : decode cX6_set 14 = .ok (.i2l, 1) := by decide +kernel
theorem dX6_set_15 : decode cX6_set 15 = .ok (.lconst 0, 1) := by decide +kernel
theorem dX6_set_16 : decode cX6_set 16 = .ok (.ldc2_w 189, 3) := by decide +kernel
theorem dX6_set_19 : decode cX6_set 19 = .ok (.invokestatic 73, 3) := by decide +kernel
theorem dX6_set_22 : decode cX6_set 22 = .ok (.ifCond .eq 7, 3) := by decide +kernel
theorem dX6_set_25 : decode cX6_set 25 = .ok (.iconst 1, 1) := by decide +kernel
theorem dX6_set_26 : decode cX6_set 26 = .ok (.goto 4, 3) := by decide +kernel
theorem dX6_set_29 : decode cX6_set 29 = .ok (.iconst 0, 1) := by decide +kernel
theorem dX6_set_30 : decode cX6_set 30 = .ok (.bipush 37, 2) := by decide +kernel
theorem dX6_set_32 : decode cX6_set 32 = .ok (.iload_n 1, 1) := by decide +kernel
theorem dX6_set_33 : decode cX6_set 33 = .ok (.iadd, 1) := by decide +kernel
theorem dX6_set_34 : decode cX6_set 34 = .ok (.iload_n 2, 1) := by decide +kernel
theorem dX6_set_35 : decode cX6_set 35 = .ok (.iconst 2, 1) := by decide +kernel
theorem dX6_set_36 : decode cX6_set 36 = .ok (.invokevirtual 191, 3) := by decide +kernel
theorem dX6_set_39 : decode cX6_set 39 = .ok (.ireturn, 1) := by decide +kernel
theorem dX6_blow_0 : decode cX6_blow 0 = .ok (.aload_n 0, 1) := by decide +kernel
theorem dX6_blow_1 : decode cX6_blow 1 = .ok (.iload_n 1, 1) := by decide +kernel
theorem dX6_blow_2 : decode cX6_blow 2 = .ok (.invokestatic 186, 3) := by decide +kernel
theorem dX6_blow_5 : decode cX6_blow 5 = .ok (.ifCond .eq 19, 3) := by decide +kernel
theorem dX6_blow_8 : decode cX6_blow 8 = .ok (.iload_n 2, 1) := by decide +kernel
theorem dX6_blow_9 : decode cX6_blow 9 = .ok (.i2l, 1) := by decide +kernel
theorem dX6_blow_10 : decode cX6_blow 10 = .ok (.lconst 0, 1) := by decide +kernel
theorem dX6_blow_11 : decode cX6_blow 11 = .ok (.ldc2_w 189, 3) := by decide +kernel
theorem dX6_blow_14 : decode cX6_blow 14 = .ok (.invokestatic 73, 3) := by decide +kernel
theorem dX6_blow_17 : decode cX6_blow 17 = .ok (.ifCond .eq 7, 3) := by decide +kernel
theorem dX6_blow_20 : decode cX6_blow 20 = .ok (.iconst 1, 1) := by decide +kernel
theorem dX6_blow_21 : decode cX6_blow 21 = .ok (.goto 4, 3) := by decide +kernel
theorem dX6_blow_24 : decode cX6_blow 24 = .ok (.iconst 0, 1) := by decide +kernel
theorem dX6_blow_25 : decode cX6_blow 25 = .ok (.bipush 47, 2) := by decide +kernel
theorem dX6_blow_27 : decode cX6_blow 27 = .ok (.iload_n 1, 1) := by decide +kernel
theorem dX6_blow_28 : decode cX6_blow 28 = .ok (.iadd, 1) := by decide +kernel
theorem dX6_blow_29 : decode cX6_blow 29 = .ok (.iload_n 2, 1) := by decide +kernel
theorem dX6_blow_30 : decode cX6_blow 30 = .ok (.iconst 0, 1) := by decide +kernel
theorem dX6_blow_31 : decode cX6_blow 31 = .ok (.invokevirtual 191, 3) := by decide +kernel
theorem dX6_blow_34 : decode cX6_blow 34 = .ok (.ireturn, 1) := by decide +kernel
theorem dX6_phase_0 : decode cX6_phase 0 = .ok (.aload_n 0, 1) := by decide +kernel
theorem dX6_phase_1 : decode cX6_phase 1 = .ok (.iload_n 1, 1) := by decide +kernel
theorem dX6_phase_2 : decode cX6_phase 2 = .ok (.i2l, 1) := by decide +kernel
theorem dX6_phase_3 : decode cX6_phase 3 = .ok (.lconst 0, 1) := by decide +kernel
theorem dX6_phase_4 : decode cX6_phase 4 = .ok (.ldc2_w 177, 3) := by decide +kernel
theorem dX6_phase_7 : decode cX6_phase 7 = .ok (.invokestatic 73, 3) := by decide +kernel
theorem dX6_phase_10 : decode cX6_phase 10 = .ok (.bipush 71, 2) := by decide +kernel
theorem dX6_phase_12 : decode cX6_phase 12 = .ok (.iload_n 1, 1) := by decide +kernel
theorem dX6_phase_13 : decode cX6_phase 13 = .ok (.iconst 0, 1) := by decide +kernel
theorem dX6_phase_14 : decode cX6_phase 14 = .ok (.invokevirtual 191, 3) := by decide +kernel
theorem dX6_phase_17 : decode cX6_phase 17 = .ok (.ireturn, 1) := by decide +kernel
theorem dX6_casts_0 : decode cX6_casts 0 = .ok (.iload_n 1, 1) := by decide +kernel
theorem dX6_casts_1 : decode cX6_casts 1 = .ok (.i2l, 1) := by decide +kernel
theorem dX6_casts_2 : decode cX6_casts 2 = .ok (.lconst 0, 1) := by decide +kernel
theorem dX6_casts_3 : decode cX6_casts 3 = .ok (.ldc2_w 184, 3) := by decide +kernel
theorem dX6_casts_6 : decode cX6_casts 6 = .ok (.invokestatic 73, 3) := by decide +kernel
theorem dX6_casts_9 : decode cX6_casts 9 = .ok (.ifCond .eq 22, 3) := by decide +kernel
theorem dX6_casts_12 : decode cX6_casts 12 = .ok (.iload_n 2, 1) := by decide +kernel
theorem dX6_casts_13 : decode cX6_casts 13 = .ok (.i2l, 1) := by decide +kernel
theorem dX6_casts_14 : decode cX6_casts 14 = .ok (.lconst 1, 1) := by decide +kernel
theorem dX6_casts_15 : decode cX6_casts 15 = .ok (.ldc2_w 184, 3) := by decide +kernel
theorem dX6_casts_18 : decode cX6_casts 18 = .ok (.invokestatic 73, 3) := by decide +kernel
theorem dX6_casts_21 : decode cX6_casts 21 = .ok (.ifCond .eq 10, 3) := by decide +kernel
theorem dX6_casts_24 : decode cX6_casts 24 = .ok (.iload_n 3, 1) := by decide +kernel
theorem dX6_casts_25 : decode cX6_casts 25 = .ok (.invokestatic 186, 3) := by decide +kernel
theorem dX6_casts_28 : decode cX6_casts 28 = .ok (.ifCond .ne 5, 3) := by decide +kernel
theorem dX6_casts_31 : decode cX6_casts 31 = .ok (.iconst (-1), 1) := by decide +kernel
theorem dX6_casts_32 : decode cX6_casts 32 = .ok (.ireturn, 1) := by decide +kernel
theorem dX6_casts_33 : decode cX6_casts 33 = .ok (.aload_n 0, 1) := by decide +kernel
theorem dX6_casts_34 : decode cX6_casts 34 = .ok (.getfield 7, 3) := by decide +kernel
theorem dX6_casts_37 : decode cX6_casts 37 = .ok (.bipush 20, 2) := by decide +kernel
theorem dX6_casts_39 : decode cX6_casts 39 = .ok (.iaload, 1) := by decide +kernel
theorem dX6_casts_40 : decode cX6_casts 40 = .ok (.istore 4, 2) := by decide +kernel
theorem dX6_casts_42 : decode cX6_casts 42 = .ok (.iload 4, 2) := by decide +kernel
theorem dX6_casts_44 : decode cX6_casts 44 = .ok (.iconst 4, 1) := by decide +kernel
theorem dX6_casts_45 : decode cX6_casts 45 = .ok (.if_icmp .ne 6, 3) := by decide +kernel
theorem dX6_casts_48 : decode cX6_casts 48 = .ok (.bipush (-3), 2) := by decide +kernel
theorem dX6_casts_50 : decode cX6_casts 50 = .ok (.ireturn, 1) := by decide +kernel
theorem dX6_casts_51 : decode cX6_casts 51 = .ok (.aload_n 0, 1) := by decide +kernel
theorem dX6_casts_52 : decode cX6_casts 52 = .ok (.getfield 7, 3) := by decide +kernel
theorem dX6_casts_55 : decode cX6_casts 55 = .ok (.iload 4, 2) := by decide +kernel
theorem dX6_casts_57 : decode cX6_casts 57 = .ok (.iconst 0, 1) := by decide +kernel
theorem dX6_casts_58 : decode cX6_casts 58 = .ok (.iastore, 1) := by decide +kernel
theorem dX6_casts_59 : decode cX6_casts 59 = .ok (.aload_n 0, 1) := by decide +kernel
theorem dX6_casts_60 : decode cX6_casts 60 = .ok (.getfield 7, 3) := by decide +kernel
theorem dX6_casts_63 : decode cX6_casts 63 = .ok (.iconst 4, 1) := by decide +kernel
theorem dX6_casts_64 : decode cX6_casts 64 = .ok (.iload 4, 2) := by decide +kernel
theorem dX6_casts_66 : decode cX6_casts 66 = .ok (.iadd, 1) := by decide +kernel
theorem dX6_casts_67 : decode cX6_casts 67 = .ok (.iload_n 1, 1) := by decide +kernel
theorem dX6_casts_68 : decode cX6_casts 68 = .ok (.iastore, 1) := by decide +kernel
theorem dX6_casts_69 : decode cX6_casts 69 = .ok (.aload_n 0, 1) := by decide +kernel
theorem dX6_casts_70 : decode cX6_casts 70 = .ok (.getfield 7, 3) := by decide +kernel
theorem dX6_casts_73 : decode cX6_casts 73 = .ok (.bipush 8, 2) := by decide +kernel
theorem dX6_casts_75 : decode cX6_casts 75 = .ok (.iload 4, 2) := by decide +kernel
theorem dX6_casts_77 : decode cX6_casts 77 = .ok (.iadd, 1) := by decide +kernel
theorem dX6_casts_78 : decode cX6_casts 78 = .ok (.iload_n 2, 1) := by decide +kernel
theorem dX6_casts_79 : decode cX6_casts 79 = .ok (.iastore, 1) := by decide +kernel
theorem dX6_casts_80 : decode cX6_casts 80 = .ok (.aload_n 0, 1) := by decide +kernel
theorem dX6_casts_81 : decode cX6_casts 81 = .ok (.getfield 7, 3) := by decide +kernel
theorem dX6_casts_84 : decode cX6_casts 84 = .ok (.bipush 12, 2) := by decide +kernel
theorem dX6_casts_86 : decode cX6_casts 86 = .ok (.iload 4, 2) := by decide +kernel
theorem dX6_casts_88 : decode cX6_casts 88 = .ok (.iadd, 1) := by decide +kernel
theorem dX6_casts_89 : decode cX6_casts 89 = .ok (.iload_n 3, 1) := by decide +kernel
theorem dX6_casts_90 : decode cX6_casts 90 = .ok (.iastore, 1) := by decide +kernel
theorem dX6_casts_91 : decode cX6_casts 91 = .ok (.aload_n 0, 1) := by decide +kernel
theorem dX6_casts_92 : decode cX6_casts 92 = .ok (.getfield 7, 3) := by decide +kernel
theorem dX6_casts_95 : decode cX6_casts 95 = .ok (.bipush 16, 2) := by decide +kernel
theorem dX6_casts_97 : decode cX6_casts 97 = .ok (.iload 4, 2) := by decide +kernel
theorem dX6_casts_99 : decode cX6_casts 99 = .ok (.iadd, 1) := by decide +kernel
theorem dX6_casts_100 : decode cX6_casts 100 = .ok (.iconst 1, 1) := by decide +kernel
theorem dX6_casts_101 : decode cX6_casts 101 = .ok (.iastore, 1) := by decide +kernel
theorem dX6_casts_102 : decode cX6_casts 102 = .ok (.aload_n 0, 1) := by decide +kernel
theorem dX6_casts_103 : decode cX6_casts 103 = .ok (.getfield 7, 3) := by decide +kernel
theorem dX6_casts_106 : decode cX6_casts 106 = .ok (.bipush 20, 2) := by decide +kernel
theorem dX6_casts_108 : decode cX6_casts 108 = .ok (.dup2, 1) := by decide +kernel
theorem dX6_casts_109 : decode cX6_casts 109 = .ok (.iaload, 1) := by decide +kernel
theorem dX6_casts_110 : decode cX6_casts 110 = .ok (.iconst 1, 1) := by decide +kernel
theorem dX6_casts_111 : decode cX6_casts 111 = .ok (.iadd, 1) := by decide +kernel
theorem dX6_casts_112 : decode cX6_casts 112 = .ok (.iastore, 1) := by decide +kernel
theorem dX6_casts_113 : decode cX6_casts 113 = .ok (.aload_n 0, 1) := by decide +kernel
theorem dX6_casts_114 : decode cX6_casts 114 = .ok (.getfield 7, 3) := by decide +kernel
theorem dX6_casts_117 : decode cX6_casts 117 = .ok (.bipush 20, 2) := by decide +kernel
theorem dX6_casts_119 : decode cX6_casts 119 = .ok (.iaload, 1) := by decide +kernel
theorem dX6_casts_120 : decode cX6_casts 120 = .ok (.ireturn, 1) := by decide +kernel
theorem dX6_cast_0 : decode cX6_cast 0 = .ok (.aload_n 0, 1) := by decide +kernel
theorem dX6_cast_1 : decode cX6_cast 1 = .ok (.iload_n 1, 1) := by decide +kernel
theorem dX6_cast_2 : decode cX6_cast 2 = .ok (.iload_n 2, 1) := by decide +kernel
theorem dX6_cast_3 : decode cX6_cast 3 = .ok (.iload_n 3, 1) := by decide +kernel
theorem dX6_cast_4 : decode cX6_cast 4 = .ok (.invokevirtual 195, 3) := by decide +kernel
theorem dX6_cast_7 : decode cX6_cast 7 = .ok (.ireturn, 1) := by decide +kernel
theorem dX6_sink_0 : decode cX6_sink 0 = .ok (.aload_n 0, 1) := by decide +kernel
theorem dX6_sink_1 : decode cX6_sink 1 = .ok (.iload_n 1, 1) := by decide +kernel
theorem dX6_sink_2 : decode cX6_sink 2 = .ok (.i2l, 1) := by decide +kernel
theorem dX6_sink_3 : decode cX6_sink 3 = .ok (.lconst 0, 1) := by decide +kernel
theorem dX6_sink_4 : decode cX6_sink 4 = .ok (.aload_n 0, 1) := by decide +kernel
theorem dX6_sink_5 : decode cX6_sink 5 = .ok (.getfield 7, 3) := by decide +kernel
theorem dX6_sink_8 : decode cX6_sink 8 = .ok (.bipush 20, 2) := by decide +kernel
theorem dX6_sink_10 : decode cX6_sink 10 = .ok (.iaload, 1) := by decide +kernel
theorem dX6_sink_11 : decode cX6_sink 11 = .ok (.i2l, 1) := by decide +kernel
theorem dX6_sink_12 : decode cX6_sink 12 = .ok (.invokestatic 73, 3) := by decide +kernel
theorem dX6_sink_15 : decode cX6_sink 15 = .ok (.bipush 20, 2) := by decide +kernel
theorem dX6_sink_17 : decode cX6_sink 17 = .ok (.iload_n 1, 1) := by decide +kernel
theorem dX6_sink_18 : decode cX6_sink 18 = .ok (.iconst 0, 1) := by decide +kernel
theorem dX6_sink_19 : decode cX6_sink 19 = .ok (.invokevirtual 191, 3) := by decide +kernel
theorem dX6_sink_22 : decode cX6_sink 22 = .ok (.ireturn, 1) := by decide +kernel
theorem dX6_drifts_0 : decode cX6_drifts 0 = .ok (.aload_n 0, 1) := by decide +kernel
theorem dX6_drifts_1 : decode cX6_drifts 1 = .ok (.getfield 198, 3) := by decide +kernel
theorem dX6_drifts_4 : decode cX6_drifts 4 = .ok (.iload_n 3, 1) := by decide +kernel
theorem dX6_drifts_5 : decode cX6_drifts 5 = .ok (.ishr, 1) := by decide +kernel
theorem dX6_drifts_6 : decode cX6_drifts 6 = .ok (.iconst 1, 1) := by decide +kernel
theorem dX6_drifts_7 : decode cX6_drifts 7 = .ok (.iand, 1) := by decide +kernel
theorem dX6_drifts_8 : decode cX6_drifts 8 = .ok (.iconst 1, 1) := by decide +kernel
theorem dX6_drifts_9 : decode cX6_drifts 9 = .ok (.if_icmp .ne 7, 3) := by decide +kernel
theorem dX6_drifts_12 : decode cX6_drifts 12 = .ok (.iconst 0, 1) := by decide +kernel
theorem dX6_drifts_13 : decode cX6_drifts 13 = .ok (.goto 14, 3) := by decide +kernel
theorem dX6_drifts_16 : decode cX6_drifts 16 = .ok (.aload_n 0, 1) := by decide +kernel
theorem dX6_drifts_17 : decode cX6_drifts 17 = .ok (.getfield 7, 3) := by decide +kernel
theorem dX6_drifts_20 : decode cX6_drifts 20 = .ok (.iload_n 1, 1) := by decide +kernel
theorem dX6_drifts_21 : decode cX6_drifts 21 = .ok (.bipush 47, 2) := by decide +kernel
theorem dX6_drifts_23 : decode cX6_drifts 23 = .ok (.iadd, 1) := by decide +kernel
theorem dX6_drifts_24 : decode cX6_drifts 24 = .ok (.iload_n 3, 1) := by decide +kernel
theorem dX6_drifts_25 : decode cX6_drifts 25 = .ok (.iadd, 1) := by decide +kernel
theorem dX6_drifts_26 : decode cX6_drifts 26 = .ok (.iaload, 1) := by decide +kernel
theorem dX6_drifts_27 : decode cX6_drifts 27 = .ok (.istore 4, 2) := by decide +kernel
theorem dX6_drifts_29 : decode cX6_drifts 29 = .ok (.aload_n 0, 1) := by decide +kernel
theorem dX6_drifts_30 : decode cX6_drifts 30 = .ok (.getfield 13, 3) := by decide +kernel
theorem dX6_drifts_33 : decode cX6_drifts 33 = .ok (.aload_n 0, 1) := by decide +kernel
theorem dX6_drifts_34 : decode cX6_drifts 34 = .ok (.getfield 7, 3) := by decide +kernel
theorem dX6_drifts_37 : decode cX6_drifts 37 = .ok (.iload_n 1, 1) := by decide +kernel
theorem dX6_drifts_38 : decode cX6_drifts 38 = .ok (.iload_n 2, 1) := by decide +kernel
theorem dX6_drifts_39 : decode cX6_drifts 39 = .ok (.iadd, 1) := by decide +kernel
theorem dX6_drifts_40 : decode cX6_drifts 40 = .ok (.iaload, 1) := by decide +kernel
theorem dX6_drifts_41 : decode cX6_drifts 41 = .ok (.iaload, 1) := by decide +kernel
theorem dX6_drifts_42 : decode cX6_drifts 42 = .ok (.istore 5, 2) := by decide +kernel
theorem dX6_drifts_44 : decode cX6_drifts 44 = .ok (.iload_n 3, 1) := by decide +kernel
theorem dX6_drifts_45 : decode cX6_drifts 45 = .ok (.aload_n 0, 1) := by decide +kernel
theorem dX6_drifts_46 : decode cX6_drifts 46 = .ok (.getfield 7, 3) := by decide +kernel
theorem dX6_drifts_49 : decode cX6_drifts 49 = .ok (.iload_n 1, 1) := by decide +kernel
theorem dX6_drifts_50 : decode cX6_drifts 50 = .ok (.bipush 71, 2) := by decide +kernel
theorem dX6_drifts_52 : decode cX6_drifts 52 = .ok (.iadd, 1) := by decide +kernel
theorem dX6_drifts_53 : decode cX6_drifts 53 = .ok (.iaload, 1) := by decide +kernel
theorem dX6_drifts_54 : decode cX6_drifts 54 = .ok (.iadd, 1) := by decide +kernel
theorem dX6_drifts_55 : decode cX6_drifts 55 = .ok (.iconst 3, 1) := by decide +kernel
theorem dX6_drifts_56 : decode cX6_drifts 56 = .ok (.idiv, 1) := by decide +kernel
theorem dX6_drifts_57 : decode cX6_drifts 57 = .ok (.iconst 2, 1) := by decide +kernel
theorem dX6_drifts_58 : decode cX6_drifts 58 = .ok (.irem, 1) := by decide +kernel
theorem dX6_drifts_59 : decode cX6_drifts 59 = .ok (.ifCond .ne 7, 3) := by decide +kernel
theorem dX6_drifts_62 : decode cX6_drifts 62 = .ok (.iconst 1, 1) := by decide +kernel
theorem dX6_drifts_63 : decode cX6_drifts 63 = .ok (.goto 4, 3) := by decide +kernel
theorem dX6_drifts_66 : decode cX6_drifts 66 = .ok (.iconst (-1), 1) := by decide +kernel
theorem dX6_drifts_67 : decode cX6_drifts 67 = .ok (.istore 6, 2) := by decide +kernel
theorem dX6_drifts_69 : decode cX6_drifts 69 = .ok (.aload_n 0, 1) := by decide +kernel
theorem dX6_drifts_70 : decode cX6_drifts 70 = .ok (.getfield 28, 3) := by decide +kernel
theorem dX6_drifts_73 : decode cX6_drifts 73 = .ok (.iload_n 2, 1) := by decide +kernel
theorem dX6_drifts_74 : decode cX6_drifts 74 = .ok (.dup2, 1) := by decide +kernel
theorem dX6_drifts_75 : decode cX6_drifts 75 = .ok (.iaload, 1) := by decide +kernel
theorem dX6_drifts_76 : decode cX6_drifts 76 = .ok (.aload_n 0, 1) := by decide +kernel
theorem dX6_drifts_77 : decode cX6_drifts 77 = .ok (.getfield 7, 3) := by decide +kernel
theorem dX6_drifts_80 : decode cX6_drifts 80 = .ok (.iload_n 1, 1) := by decide +kernel
theorem dX6_drifts_81 : decode cX6_drifts 81 = .ok (.bipush 37, 2) := by decide +kernel
theorem dX6_drifts_83 : decode cX6_drifts 83 = .ok (.iadd, 1) := by decide +kernel
theorem dX6_drifts_84 : decode cX6_drifts 84 = .ok (.aload_n 0, 1) := by decide +kernel
theorem dX6_drifts_85 : decode cX6_drifts 85 = .ok (.getfield 31, 3) := by decide +kernel
theorem dX6_drifts_88 : decode cX6_drifts 88 = .ok (.iload_n 2, 1) := by decide +kernel
theorem dX6_drifts_89 : decode cX6_drifts 89 = .ok (.iaload, 1) := by decide +kernel
theorem dX6_drifts_90 : decode cX6_drifts 90 = .ok (.iadd, 1) := by decide +kernel
theorem dX6_drifts_91 : decode cX6_drifts 91 = .ok (.iaload, 1) := by decide +kernel
theorem dX6_drifts_92 : decode cX6_drifts 92 = .ok (.iload 4, 2) := by decide +kernel
theorem dX6_drifts_94 : decode cX6_drifts 94 = .ok (.iconst 2, 1) := by decide +kernel
theorem dX6_drifts_95 : decode cX6_drifts 95 = .ok (.if_icmp .ne 8, 3) := by decide +kernel
theorem dX6_drifts_98 : decode cX6_drifts 98 = .ok (.iload 5, 2) := by decide +kernel
theorem dX6_drifts_100 : decode cX6_drifts 100 = .ok (.goto 16, 3) := by decide +kernel
theorem dX6_drifts_103 : decode cX6_drifts 103 = .ok (.iload 4, 2) := by decide +kernel
theorem dX6_drifts_105 : decode cX6_drifts 105 = .ok (.iconst 4, 1) := by decide +kernel
theorem dX6_drifts_106 : decode cX6_drifts 106 = .ok (.if_icmp .ne 9, 3) := by decide +kernel
theorem dX6_drifts_109 : decode cX6_drifts 109 = .ok (.iload 5, 2) := by decide +kernel
theorem dX6_drifts_111 : decode cX6_drifts 111 = .ok (.ineg, 1) := by decide +kernel
theorem dX6_drifts_112 : decode cX6_drifts 112 = .ok (.goto 4, 3) := by decide +kernel
theorem dX6_drifts_115 : decode cX6_drifts 115 = .ok (.iconst 0, 1) := by decide +kernel
theorem dX6_drifts_116 : decode cX6_drifts 116 = .ok (.iadd, 1) := by decide +kernel
theorem dX6_drifts_117 : decode cX6_drifts 117 = .ok (.iadd, 1) := by decide +kernel
theorem dX6_drifts_118 : decode cX6_drifts 118 = .ok (.iastore, 1) := by decide +kernel
theorem dX6_drifts_119 : decode cX6_drifts 119 = .ok (.aload_n 0, 1) := by decide +kernel
theorem dX6_drifts_120 : decode cX6_drifts 120 = .ok (.getfield 31, 3) := by decide +kernel
theorem dX6_drifts_123 : decode cX6_drifts 123 = .ok (.iload_n 2, 1) := by decide +kernel
theorem dX6_drifts_124 : decode cX6_drifts 124 = .ok (.dup2, 1) := by decide +kernel
theorem dX6_drifts_125 : decode cX6_drifts 125 = .ok (.iaload, 1) := by decide +kernel
theorem dX6_drifts_126 : decode cX6_drifts 126 = .ok (.iload 6, 2) := by decide +kernel
theorem dX6_drifts_128 : decode cX6_drifts 128 = .ok (.iload 4, 2) := by decide +kernel
theorem dX6_drifts_130 : decode cX6_drifts 130 = .ok (.iconst 3, 1) := by decide +kernel
theorem dX6_drifts_131 : decode cX6_drifts 131 = .ok (.if_icmp .ne 8, 3) := by decide +kernel
theorem dX6_drifts_134 : decode cX6_drifts 134 = .ok (.iload 5, 2) := by decide +kernel
theorem dX6_drifts_136 : decode cX6_drifts 136 = .ok (.goto 16, 3) := by decide +kernel
theorem dX6_drifts_139 : decode cX6_drifts 139 = .ok (.iload 4, 2) := by decide +kernel
theorem dX6_drifts_141 : decode cX6_drifts 141 = .ok (.iconst 1, 1) := by decide +kernel
theorem dX6_drifts_142 : decode cX6_drifts 142 = .ok (.if_icmp .ne 9, 3) := by decide +kernel
theorem dX6_drifts_145 : decode cX6_drifts 145 = .ok (.iload 5, 2) := by decide +kernel
theorem dX6_drifts_147 : decode cX6_drifts 147 = .ok (.ineg, 1) := by decide +kernel
theorem dX6_drifts_148 : decode cX6_drifts 148 = .ok (.goto 4, 3) := by decide +kernel
theorem dX6_drifts_151 : decode cX6_drifts 151 = .ok (.iconst 0, 1) := by decide +kernel
theorem dX6_drifts_152 : decode cX6_drifts 152 = .ok (.iadd, 1) := by decide +kernel
theorem dX6_drifts_153 : decode cX6_drifts 153 = .ok (.iadd, 1) := by decide +kernel
theorem dX6_drifts_154 : decode cX6_drifts 154 = .ok (.iastore, 1) := by decide +kernel
theorem dX6_drifts_155 : decode cX6_drifts 155 = .ok (.aload_n 0, 1) := by decide +kernel
theorem dX6_drifts_156 : decode cX6_drifts 156 = .ok (.getfield 31, 3) := by decide +kernel
theorem dX6_drifts_159 : decode cX6_drifts 159 = .ok (.iload_n 2, 1) := by decide +kernel
theorem dX6_drifts_160 : decode cX6_drifts 160 = .ok (.iaload, 1) := by decide +kernel
theorem dX6_drifts_161 : decode cX6_drifts 161 = .ok (.ifCond .gt 68, 3) := by decide +kernel
theorem dX6_drifts_164 : decode cX6_drifts 164 = .ok (.aload_n 0, 1) := by decide +kernel
theorem dX6_drifts_165 : decode cX6_drifts 165 = .ok (.getfield 31, 3) := by decide +kernel
theorem dX6_drifts_168 : decode cX6_drifts 168 = .ok (.iload_n 2, 1) := by decide +kernel
theorem dX6_drifts_169 : decode cX6_drifts 169 = .ok (.iconst 0, 1) := by decide +kernel
theorem dX6_drifts_170 : decode cX6_drifts 170 = .ok (.iastore, 1) := by decide +kernel
theorem dX6_drifts_171 : decode cX6_drifts 171 = .ok (.aload_n 0, 1) := by decide +kernel
theorem dX6_drifts_172 : decode cX6_drifts 172 = .ok (.getfield 28, 3) := by decide +kernel
theorem dX6_drifts_175 : decode cX6_drifts 175 = .ok (.iload_n 2, 1) := by decide +kernel
theorem dX6_drifts_176 : decode cX6_drifts 176 = .ok (.aload_n 0, 1) := by decide +kernel
theorem dX6_drifts_177 : decode cX6_drifts 177 = .ok (.getfield 28, 3) := by decide +kernel
theorem dX6_drifts_180 : decode cX6_drifts 180 = .ok (.iload_n 2, 1) := by decide +kernel
theorem dX6_drifts_181 : decode cX6_drifts 181 = .ok (.iaload, 1) := by decide +kernel
theorem dX6_drifts_182 : decode cX6_drifts 182 = .ok (.ifCond .ge 7, 3) := by decide +kernel
theorem dX6_drifts_185 : decode cX6_drifts 185 = .ok (.iconst 0, 1) := by decide +kernel
theorem dX6_drifts_186 : decode cX6_drifts 186 = .ok (.goto 25, 3) := by decide +kernel
theorem dX6_drifts_189 : decode cX6_drifts 189 = .ok (.aload_n 0, 1) := by decide +kernel
theorem dX6_drifts_190 : decode cX6_drifts 190 = .ok (.getfield 28, 3) := by decide +kernel
theorem dX6_drifts_193 : decode cX6_drifts 193 = .ok (.iload_n 2, 1) := by decide +kernel
theorem dX6_drifts_194 : decode cX6_drifts 194 = .ok (.iaload, 1) := by decide +kernel
theorem dX6_drifts_195 : decode cX6_drifts 195 = .ok (.bipush 9, 2) := by decide +kernel
theorem dX6_drifts_197 : decode cX6_drifts 197 = .ok (.if_icmp .le 8, 3) := by decide +kernel
theorem dX6_drifts_200 : decode cX6_drifts 200 = .ok (.bipush 9, 2) := by decide +kernel
theorem dX6_drifts_202 : decode cX6_drifts 202 = .ok (.goto 9, 3) := by decide +kernel
theorem dX6_drifts_205 : decode cX6_drifts 205 = .ok (.aload_n 0, 1) := by decide +kernel
theorem dX6_drifts_206 : decode cX6_drifts 206 = .ok (.getfield 28, 3) := by decide +kernel
theorem dX6_drifts_209 : decode cX6_drifts 209 = .ok (.iload_n 2, 1) := by decide +kernel
theorem dX6_drifts_210 : decode cX6_drifts 210 = .ok (.iaload, 1) := by decide +kernel
theorem dX6_drifts_211 : decode cX6_drifts 211 = .ok (.iastore, 1) := by decide +kernel
theorem dX6_drifts_212 : decode cX6_drifts 212 = .ok (.aload_n 0, 1) := by decide +kernel
theorem dX6_drifts_213 : decode cX6_drifts 213 = .ok (.getfield 34, 3) := by decide +kernel
theorem dX6_drifts_216 : decode cX6_drifts 216 = .ok (.iload_n 2, 1) := by decide +kernel
theorem dX6_drifts_217 : decode cX6_drifts 217 = .ok (.iconst 2, 1) := by decide +kernel
theorem dX6_drifts_218 : decode cX6_drifts 218 = .ok (.iastore, 1) := by decide +kernel
theorem dX6_drifts_219 : decode cX6_drifts 219 = .ok (.aload_n 0, 1) := by decide +kernel
theorem dX6_drifts_220 : decode cX6_drifts 220 = .ok (.getfield 37, 3) := by decide +kernel
theorem dX6_drifts_223 : decode cX6_drifts 223 = .ok (.iload_n 2, 1) := by decide +kernel
theorem dX6_drifts_224 : decode cX6_drifts 224 = .ok (.iload_n 3, 1) := by decide +kernel
theorem dX6_drifts_225 : decode cX6_drifts 225 = .ok (.iastore, 1) := by decide +kernel
theorem dX6_drifts_226 : decode cX6_drifts 226 = .ok (.goto 45, 3) := by decide +kernel
theorem dX6_drifts_229 : decode cX6_drifts 229 = .ok (.aload_n 0, 1) := by decide +kernel
theorem dX6_drifts_230 : decode cX6_drifts 230 = .ok (.getfield 31, 3) := by decide +kernel
theorem dX6_drifts_233 : decode cX6_drifts 233 = .ok (.iload_n 2, 1) := by decide +kernel
theorem dX6_drifts_234 : decode cX6_drifts 234 = .ok (.iaload, 1) := by decide +kernel
theorem dX6_drifts_235 : decode cX6_drifts 235 = .ok (.bipush 9, 2) := by decide +kernel
theorem dX6_drifts_237 : decode cX6_drifts 237 = .ok (.if_icmp .gt 20, 3) := by decide +kernel
theorem dX6_drifts_240 : decode cX6_drifts 240 = .ok (.aload_n 0, 1) := by decide +kernel
theorem dX6_drifts_241 : decode cX6_drifts 241 = .ok (.getfield 28, 3) := by decide +kernel
theorem dX6_drifts_244 : decode cX6_drifts 244 = .ok (.iload_n 2, 1) := by decide +kernel
theorem dX6_drifts_245 : decode cX6_drifts 245 = .ok (.iaload, 1) := by decide +kernel
theorem dX6_drifts_246 : decode cX6_drifts 246 = .ok (.i2l, 1) := by decide +kernel
theorem dX6_drifts_247 : decode cX6_drifts 247 = .ok (.lconst 0, 1) := by decide +kernel
theorem dX6_drifts_248 : decode cX6_drifts 248 = .ok (.ldc2_w 184, 3) := by decide +kernel
theorem dX6_drifts_251 : decode cX6_drifts 251 = .ok (.invokestatic 73, 3) := by decide +kernel
theorem dX6_drifts_254 : decode cX6_drifts 254 = .ok (.ifCond .ne 17, 3) := by decide +kernel
theorem dX6_drifts_257 : decode cX6_drifts 257 = .ok (.aload_n 0, 1) := by decide +kernel
theorem dX6_drifts_258 : decode cX6_drifts 258 = .ok (.getfield 34, 3) := by decide +kernel
theorem dX6_drifts_261 : decode cX6_drifts 261 = .ok (.iload_n 2, 1) := by decide +kernel
theorem dX6_drifts_262 : decode cX6_drifts 262 = .ok (.iconst 3, 1) := by decide +kernel
theorem dX6_drifts_263 : decode cX6_drifts 263 = .ok (.iastore, 1) := by decide +kernel
theorem dX6_drifts_264 : decode cX6_drifts 264 = .ok (.aload_n 0, 1) := by decide +kernel
theorem dX6_drifts_265 : decode cX6_drifts 265 = .ok (.getfield 37, 3) := by decide +kernel
theorem dX6_drifts_268 : decode cX6_drifts 268 = .ok (.iload_n 2, 1) := by decide +kernel
theorem dX6_drifts_269 : decode cX6_drifts 269 = .ok (.iload_n 3, 1) := by decide +kernel
theorem dX6_drifts_270 : decode cX6_drifts 270 = .ok (.iastore, 1) := by decide +kernel
theorem dX6_drifts_271 : decode cX6_drifts 271 = .ok (.return_, 1) := by decide +kernel
theorem dX6_hooks_0 : decode cX6_hooks 0 = .ok (.bipush (-4), 2) := by decide +kernel
theorem dX6_hooks_2 : decode cX6_hooks 2 = .ok (.istore 4, 2) := by decide +kernel
theorem dX6_hooks_4 : decode cX6_hooks 4 = .ok (.bipush 100, 2) := by decide +kernel
theorem dX6_hooks_6 : decode cX6_hooks 6 = .ok (.istore 5, 2) := by decide +kernel
theorem dX6_hooks_8 : decode cX6_hooks 8 = .ok (.iconst 0, 1) := by decide +kernel
theorem dX6_hooks_9 : decode cX6_hooks 9 = .ok (.istore 6, 2) := by decide +kernel
theorem dX6_hooks_11 : decode cX6_hooks 11 = .ok (.iload 6, 2) := by decide +kernel
theorem dX6_hooks_13 : decode cX6_hooks 13 = .ok (.aload_n 0, 1) := by decide +kernel
theorem dX6_hooks_14 : decode cX6_hooks 14 = .ok (.getfield 156, 3) := by decide +kernel
theorem dX6_hooks_17 : decode cX6_hooks 17 = .ok (.if_icmp .ge 160, 3) := by decide +kernel
theorem dX6_hooks_20 : decode cX6_hooks 20 = .ok (.iload_n 1, 1) := by decide +kernel
theorem dX6_hooks_21 : decode cX6_hooks 21 = .ok (.bipush 21, 2) := by decide +kernel
theorem dX6_hooks_23 : decode cX6_hooks 23 = .ok (.iadd, 1) := by decide +kernel
theorem dX6_hooks_24 : decode cX6_hooks 24 = .ok (.iconst 4, 1) := by decide +kernel
theorem dX6_hooks_25 : decode cX6_hooks 25 = .ok (.iload 6, 2) := by decide +kernel
theorem dX6_hooks_27 : decode cX6_hooks 27 = .ok (.imul, 1) := by decide +kernel
theorem dX6_hooks_28 : decode cX6_hooks 28 = .ok (.iadd, 1) := by decide +kernel
theorem dX6_hooks_29 : decode cX6_hooks 29 = .ok (.istore 7, 2) := by decide +kernel
theorem dX6_hooks_31 : decode cX6_hooks 31 = .ok (.aload_n 0, 1) := by decide +kernel
theorem dX6_hooks_32 : decode cX6_hooks 32 = .ok (.getfield 7, 3) := by decide +kernel
theorem dX6_hooks_35 : decode cX6_hooks 35 = .ok (.iload 7, 2) := by decide +kernel
theorem dX6_hooks_37 : decode cX6_hooks 37 = .ok (.iaload, 1) := by decide +kernel
theorem dX6_hooks_38 : decode cX6_hooks 38 = .ok (.aload_n 0, 1) := by decide +kernel
theorem dX6_hooks_39 : decode cX6_hooks 39 = .ok (.getfield 28, 3) := by decide +kernel
theorem dX6_hooks_42 : decode cX6_hooks 42 = .ok (.iload_n 2, 1) := by decide +kernel
theorem dX6_hooks_43 : decode cX6_hooks 43 = .ok (.iaload, 1) := by decide +kernel
theorem dX6_hooks_44 : decode cX6_hooks 44 = .ok (.if_icmp .le 20, 3) := by decide +kernel
theorem dX6_hooks_47 : decode cX6_hooks 47 = .ok (.aload_n 0, 1) := by decide +kernel
theorem dX6_hooks_48 : decode cX6_hooks 48 = .ok (.getfield 7, 3) := by decide +kernel
theorem dX6_hooks_51 : decode cX6_hooks 51 = .ok (.iload 7, 2) := by decide +kernel
theorem dX6_hooks_53 : decode cX6_hooks 53 = .ok (.iaload, 1) := by decide +kernel
theorem dX6_hooks_54 : decode cX6_hooks 54 = .ok (.aload_n 0, 1) := by decide +kernel
theorem dX6_hooks_55 : decode cX6_hooks 55 = .ok (.getfield 28, 3) := by decide +kernel
theorem dX6_hooks_58 : decode cX6_hooks 58 = .ok (.iload_n 2, 1) := by decide +kernel
theorem dX6_hooks_59 : decode cX6_hooks 59 = .ok (.iaload, 1) := by decide +kernel
theorem dX6_hooks_60 : decode cX6_hooks 60 = .ok (.isub, 1) := by decide +kernel
theorem dX6_hooks_61 : decode cX6_hooks 61 = .ok (.goto 17, 3) := by decide +kernel
theorem dX6_hooks_64 : decode cX6_hooks 64 = .ok (.aload_n 0, 1) := by decide +kernel
theorem dX6_hooks_65 : decode cX6_hooks 65 = .ok (.getfield 28, 3) := by decide +kernel
theorem dX6_hooks_68 : decode cX6_hooks 68 = .ok (.iload_n 2, 1) := by decide +kernel
theorem dX6_hooks_69 : decode cX6_hooks 69 = .ok (.iaload, 1) := by decide +kernel
theorem dX6_hooks_70 : decode cX6_hooks 70 = .ok (.aload_n 0, 1) := by decide +kernel
theorem dX6_hooks_71 : decode cX6_hooks 71 = .ok (.getfield 7, 3) := by decide +kernel
theorem dX6_hooks_74 : decode cX6_hooks 74 = .ok (.iload 7, 2) := by decide +kernel
theorem dX6_hooks_76 : decode cX6_hooks 76 = .ok (.iaload, 1) := by decide +kernel
theorem dX6_hooks_77 : decode cX6_hooks 77 = .ok (.isub, 1) := by decide +kernel
theorem dX6_hooks_78 : decode cX6_hooks 78 = .ok (.istore 8, 2) := by decide +kernel
theorem dX6_hooks_80 : decode cX6_hooks 80 = .ok (.iload_n 3, 1) := by decide +kernel
theorem dX6_hooks_81 : decode cX6_hooks 81 = .ok (.i2l, 1) := by decide +kernel
theorem dX6_hooks_82 : decode cX6_hooks 82 = .ok (.aload_n 0, 1) := by decide +kernel
theorem dX6_hooks_83 : decode cX6_hooks 83 = .ok (.getfield 7, 3) := by decide +kernel
theorem dX6_hooks_86 : decode cX6_hooks 86 = .ok (.iload 7, 2) := by decide +kernel
theorem dX6_hooks_88 : decode cX6_hooks 88 = .ok (.iconst 1, 1) := by decide +kernel
theorem dX6_hooks_89 : decode cX6_hooks 89 = .ok (.iadd, 1) := by decide +kernel
theorem dX6_hooks_90 : decode cX6_hooks 90 = .ok (.iaload, 1) := by decide +kernel
theorem dX6_hooks_91 : decode cX6_hooks 91 = .ok (.i2l, 1) := by decide +kernel
theorem dX6_hooks_92 : decode cX6_hooks 92 = .ok (.aload_n 0, 1) := by decide +kernel
theorem dX6_hooks_93 : decode cX6_hooks 93 = .ok (.getfield 7, 3) := by decide +kernel
theorem dX6_hooks_96 : decode cX6_hooks 96 = .ok (.iload 7, 2) := by decide +kernel
theorem dX6_hooks_98 : decode cX6_hooks 98 = .ok (.iconst 2, 1) := by decide +kernel
theorem dX6_hooks_99 : decode cX6_hooks 99 = .ok (.iadd, 1) := by decide +kernel
theorem dX6_hooks_100 : decode cX6_hooks 100 = .ok (.iaload, 1) := by decide +kernel
theorem dX6_hooks_101 : decode cX6_hooks 101 = .ok (.i2l, 1) := by decide +kernel
theorem dX6_hooks_102 : decode cX6_hooks 102 = .ok (.invokestatic 73, 3) := by decide +kernel
theorem dX6_hooks_105 : decode cX6_hooks 105 = .ok (.ifCond .eq 21, 3) := by decide +kernel
theorem dX6_hooks_108 : decode cX6_hooks 108 = .ok (.iload 8, 2) := by decide +kernel
theorem dX6_hooks_110 : decode cX6_hooks 110 = .ok (.aload_n 0, 1) := by decide +kernel
theorem dX6_hooks_111 : decode cX6_hooks 111 = .ok (.getfield 7, 3) := by decide +kernel
theorem dX6_hooks_114 : decode cX6_hooks 114 = .ok (.iload 7, 2) := by decide +kernel
theorem dX6_hooks_116 : decode cX6_hooks 116 = .ok (.iconst 3, 1) := by decide +kernel
theorem dX6_hooks_117 : decode cX6_hooks 117 = .ok (.iadd, 1) := by decide +kernel
theorem dX6_hooks_118 : decode cX6_hooks 118 = .ok (.iaload, 1) := by decide +kernel
theorem dX6_hooks_119 : decode cX6_hooks 119 = .ok (.if_icmp .gt 7, 3) := by decide +kernel
theorem dX6_hooks_122 : decode cX6_hooks 122 = .ok (.iconst 1, 1) := by decide +kernel
theorem dX6_hooks_123 : decode cX6_hooks 123 = .ok (.goto 4, 3) := by decide +kernel
theorem dX6_hooks_126 : decode cX6_hooks 126 = .ok (.iconst 0, 1) := by decide +kernel
theorem dX6_hooks_127 : decode cX6_hooks 127 = .ok (.istore 9, 2) := by decide +kernel
theorem dX6_hooks_129 : decode cX6_hooks 129 = .ok (.iload 9, 2) := by decide +kernel
theorem dX6_hooks_131 : decode cX6_hooks 131 = .ok (.ifCond .eq 15, 3) := by decide +kernel
theorem dX6_hooks_134 : decode cX6_hooks 134 = .ok (.iload 8, 2) := by decide +kernel
theorem dX6_hooks_136 : decode cX6_hooks 136 = .ok (.iload 5, 2) := by decide +kernel
theorem dX6_hooks_138 : decode cX6_hooks 138 = .ok (.if_icmp .ge 8, 3) := by decide +kernel
theorem dX6_hooks_141 : decode cX6_hooks 141 = .ok (.iload 6, 2) := by decide +kernel
theorem dX6_hooks_143 : decode cX6_hooks 143 = .ok (.goto 5, 3) := by decide +kernel
theorem dX6_hooks_146 : decode cX6_hooks 146 = .ok (.iload 4, 2) := by decide +kernel
theorem dX6_hooks_148 : decode cX6_hooks 148 = .ok (.istore 4, 2) := by decide +kernel
theorem dX6_hooks_150 : decode cX6_hooks 150 = .ok (.iload 9, 2) := by decide +kernel
theorem dX6_hooks_152 : decode cX6_hooks 152 = .ok (.ifCond .eq 15, 3) := by decide +kernel
theorem dX6_hooks_155 : decode cX6_hooks 155 = .ok (.iload 8, 2) := by decide +kernel
theorem dX6_hooks_157 : decode cX6_hooks 157 = .ok (.iload 5, 2) := by decide +kernel
theorem dX6_hooks_159 : decode cX6_hooks 159 = .ok (.if_icmp .ge 8, 3) := by decide +kernel
theorem dX6_hooks_162 : decode cX6_hooks 162 = .ok (.iload 8, 2) := by decide +kernel
theorem dX6_hooks_164 : decode cX6_hooks 164 = .ok (.goto 5, 3) := by decide +kernel
theorem dX6_hooks_167 : decode cX6_hooks 167 = .ok (.iload 5, 2) := by decide +kernel
theorem dX6_hooks_169 : decode cX6_hooks 169 = .ok (.istore 5, 2) := by decide +kernel
theorem dX6_hooks_171 : decode cX6_hooks 171 = .ok (.iinc 6 1, 3) := by decide +kernel
theorem dX6_hooks_174 : decode cX6_hooks 174 = .ok (.goto (-163), 3) := by decide +kernel
theorem dX6_hooks_177 : decode cX6_hooks 177 = .ok (.iload 4, 2) := by decide +kernel
theorem dX6_hooks_179 : decode cX6_hooks 179 = .ok (.bipush (-4), 2) := by decide +kernel
theorem dX6_hooks_181 : decode cX6_hooks 181 = .ok (.if_icmp .eq 25, 3) := by decide +kernel
theorem dX6_hooks_184 : decode cX6_hooks 184 = .ok (.aload_n 0, 1) := by decide +kernel
theorem dX6_hooks_185 : decode cX6_hooks 185 = .ok (.getfield 34, 3) := by decide +kernel
theorem dX6_hooks_188 : decode cX6_hooks 188 = .ok (.iload_n 2, 1) := by decide +kernel
theorem dX6_hooks_189 : decode cX6_hooks 189 = .ok (.iconst 1, 1) := by decide +kernel
theorem dX6_hooks_190 : decode cX6_hooks 190 = .ok (.iastore, 1) := by decide +kernel
theorem dX6_hooks_191 : decode cX6_hooks 191 = .ok (.aload_n 0, 1) := by decide +kernel
theorem dX6_hooks_192 : decode cX6_hooks 192 = .ok (.getfield 40, 3) := by decide +kernel
theorem dX6_hooks_195 : decode cX6_hooks 195 = .ok (.iload_n 2, 1) := by decide +kernel
theorem dX6_hooks_196 : decode cX6_hooks 196 = .ok (.iload 4, 2) := by decide +kernel
theorem dX6_hooks_198 : decode cX6_hooks 198 = .ok (.iastore, 1) := by decide +kernel
theorem dX6_hooks_199 : decode cX6_hooks 199 = .ok (.aload_n 0, 1) := by decide +kernel
theorem dX6_hooks_200 : decode cX6_hooks 200 = .ok (.getfield 43, 3) := by decide +kernel
theorem dX6_hooks_203 : decode cX6_hooks 203 = .ok (.iload_n 2, 1) := by decide +kernel
theorem dX6_hooks_204 : decode cX6_hooks 204 = .ok (.iload_n 3, 1) := by decide +kernel
theorem dX6_hooks_205 : decode cX6_hooks 205 = .ok (.iastore, 1) := by decide +kernel
theorem dX6_hooks_206 : decode cX6_hooks 206 = .ok (.return_, 1) := by decide +kernel
theorem dX6_dayGoes_0 : decode cX6_dayGoes 0 = .ok (.aload_n 0, 1) := by decide +kernel
theorem dX6_dayGoes_1 : decode cX6_dayGoes 1 = .ok (.getfield 7, 3) := by decide +kernel
theorem dX6_dayGoes_4 : decode cX6_dayGoes 4 = .ok (.iload_n 1, 1) := by decide +kernel
theorem dX6_dayGoes_5 : decode cX6_dayGoes 5 = .ok (.bipush 20, 2) := by decide +kernel
theorem dX6_dayGoes_7 : decode cX6_dayGoes 7 = .ok (.iadd, 1) := by decide +kernel
theorem dX6_dayGoes_8 : decode cX6_dayGoes 8 = .ok (.iaload, 1) := by decide +kernel
theorem dX6_dayGoes_9 : decode cX6_dayGoes 9 = .ok (.istore_n 3, 1) := by decide +kernel
theorem dX6_dayGoes_10 : decode cX6_dayGoes 10 = .ok (.iconst 0, 1) := by decide +kernel
theorem dX6_dayGoes_11 : decode cX6_dayGoes 11 = .ok (.istore 4, 2) := by decide +kernel
theorem dX6_dayGoes_13 : decode cX6_dayGoes 13 = .ok (.iload 4, 2) := by decide +kernel
theorem dX6_dayGoes_15 : decode cX6_dayGoes 15 = .ok (.iload_n 3, 1) := by decide +kernel
theorem dX6_dayGoes_16 : decode cX6_dayGoes 16 = .ok (.if_icmp .ge 81, 3) := by decide +kernel
theorem dX6_dayGoes_19 : decode cX6_dayGoes 19 = .ok (.aload_n 0, 1) := by decide +kernel
theorem dX6_dayGoes_20 : decode cX6_dayGoes 20 = .ok (.getfield 28, 3) := by decide +kernel
theorem dX6_dayGoes_23 : decode cX6_dayGoes 23 = .ok (.iload 4, 2) := by decide +kernel
theorem dX6_dayGoes_25 : decode cX6_dayGoes 25 = .ok (.aload_n 0, 1) := by decide +kernel
theorem dX6_dayGoes_26 : decode cX6_dayGoes 26 = .ok (.getfield 7, 3) := by decide +kernel
theorem dX6_dayGoes_29 : decode cX6_dayGoes 29 = .ok (.iload_n 1, 1) := by decide +kernel
theorem dX6_dayGoes_30 : decode cX6_dayGoes 30 = .ok (.iconst 4, 1) := by decide +kernel
theorem dX6_dayGoes_31 : decode cX6_dayGoes 31 = .ok (.iadd, 1) := by decide +kernel
theorem dX6_dayGoes_32 : decode cX6_dayGoes 32 = .ok (.iload 4, 2) := by decide +kernel
theorem dX6_dayGoes_34 : decode cX6_dayGoes 34 = .ok (.iadd, 1) := by decide +kernel
theorem dX6_dayGoes_35 : decode cX6_dayGoes 35 = .ok (.iaload, 1) := by decide +kernel
theorem dX6_dayGoes_36 : decode cX6_dayGoes 36 = .ok (.iastore, 1) := by decide +kernel
theorem dX6_dayGoes_37 : decode cX6_dayGoes 37 = .ok (.aload_n 0, 1) := by decide +kernel
theorem dX6_dayGoes_38 : decode cX6_dayGoes 38 = .ok (.getfield 31, 3) := by decide +kernel
theorem dX6_dayGoes_41 : decode cX6_dayGoes 41 = .ok (.iload 4, 2) := by decide +kernel
theorem dX6_dayGoes_43 : decode cX6_dayGoes 43 = .ok (.aload_n 0, 1) := by decide +kernel
theorem dX6_dayGoes_44 : decode cX6_dayGoes 44 = .ok (.getfield 7, 3) := by decide +kernel
theorem dX6_dayGoes_47 : decode cX6_dayGoes 47 = .ok (.iload_n 1, 1) := by decide +kernel
theorem dX6_dayGoes_48 : decode cX6_dayGoes 48 = .ok (.bipush 8, 2) := by decide +kernel
theorem dX6_dayGoes_50 : decode cX6_dayGoes 50 = .ok (.iadd, 1) := by decide +kernel
theorem dX6_dayGoes_51 : decode cX6_dayGoes 51 = .ok (.iload 4, 2) := by decide +kernel
theorem dX6_dayGoes_53 : decode cX6_dayGoes 53 = .ok (.iadd, 1) := by decide +kernel
theorem dX6_dayGoes_54 : decode cX6_dayGoes 54 = .ok (.iaload, 1) := by decide +kernel
theorem dX6_dayGoes_55 : decode cX6_dayGoes 55 = .ok (.iastore, 1) := by decide +kernel
theorem dX6_dayGoes_56 : decode cX6_dayGoes 56 = .ok (.aload_n 0, 1) := by decide +kernel
theorem dX6_dayGoes_57 : decode cX6_dayGoes 57 = .ok (.getfield 34, 3) := by decide +kernel
theorem dX6_dayGoes_60 : decode cX6_dayGoes 60 = .ok (.iload 4, 2) := by decide +kernel
theorem dX6_dayGoes_62 : decode cX6_dayGoes 62 = .ok (.iconst 0, 1) := by decide +kernel
theorem dX6_dayGoes_63 : decode cX6_dayGoes 63 = .ok (.iastore, 1) := by decide +kernel
theorem dX6_dayGoes_64 : decode cX6_dayGoes 64 = .ok (.aload_n 0, 1) := by decide +kernel
theorem dX6_dayGoes_65 : decode cX6_dayGoes 65 = .ok (.getfield 37, 3) := by decide +kernel
theorem dX6_dayGoes_68 : decode cX6_dayGoes 68 = .ok (.iload 4, 2) := by decide +kernel
theorem dX6_dayGoes_70 : decode cX6_dayGoes 70 = .ok (.bipush (-4), 2) := by decide +kernel
theorem dX6_dayGoes_72 : decode cX6_dayGoes 72 = .ok (.iastore, 1) := by decide +kernel
theorem dX6_dayGoes_73 : decode cX6_dayGoes 73 = .ok (.aload_n 0, 1) := by decide +kernel
theorem dX6_dayGoes_74 : decode cX6_dayGoes 74 = .ok (.getfield 40, 3) := by decide +kernel
theorem dX6_dayGoes_77 : decode cX6_dayGoes 77 = .ok (.iload 4, 2) := by decide +kernel
theorem dX6_dayGoes_79 : decode cX6_dayGoes 79 = .ok (.bipush (-4), 2) := by decide +kernel
theorem dX6_dayGoes_81 : decode cX6_dayGoes 81 = .ok (.iastore, 1) := by decide +kernel
theorem dX6_dayGoes_82 : decode cX6_dayGoes 82 = .ok (.aload_n 0, 1) := by decide +kernel
theorem dX6_dayGoes_83 : decode cX6_dayGoes 83 = .ok (.getfield 43, 3) := by decide +kernel
theorem dX6_dayGoes_86 : decode cX6_dayGoes 86 = .ok (.iload 4, 2) := by decide +kernel
theorem dX6_dayGoes_88 : decode cX6_dayGoes 88 = .ok (.bipush (-4), 2) := by decide +kernel
theorem dX6_dayGoes_90 : decode cX6_dayGoes 90 = .ok (.iastore, 1) := by decide +kernel
theorem dX6_dayGoes_91 : decode cX6_dayGoes 91 = .ok (.iinc 4 1, 3) := by decide +kernel
theorem dX6_dayGoes_94 : decode cX6_dayGoes 94 = .ok (.goto (-81), 3) := by decide +kernel
theorem dX6_dayGoes_97 : decode cX6_dayGoes 97 = .ok (.iconst 0, 1) := by decide +kernel
theorem dX6_dayGoes_98 : decode cX6_dayGoes 98 = .ok (.istore 4, 2) := by decide +kernel
theorem dX6_dayGoes_100 : decode cX6_dayGoes 100 = .ok (.iload 4, 2) := by decide +kernel
theorem dX6_dayGoes_102 : decode cX6_dayGoes 102 = .ok (.iload_n 2, 1) := by decide +kernel
theorem dX6_dayGoes_103 : decode cX6_dayGoes 103 = .ok (.if_icmp .ge 95, 3) := by decide +kernel
theorem dX6_dayGoes_106 : decode cX6_dayGoes 106 = .ok (.iconst 0, 1) := by decide +kernel
theorem dX6_dayGoes_107 : decode cX6_dayGoes 107 = .ok (.istore 5, 2) := by decide +kernel
theorem dX6_dayGoes_109 : decode cX6_dayGoes 109 = .ok (.iload 5, 2) := by decide +kernel
theorem dX6_dayGoes_111 : decode cX6_dayGoes 111 = .ok (.iload_n 3, 1) := by decide +kernel
theorem dX6_dayGoes_112 : decode cX6_dayGoes 112 = .ok (.if_icmp .ge 45, 3) := by decide +kernel
theorem dX6_dayGoes_115 : decode cX6_dayGoes 115 = .ok (.aload_n 0, 1) := by decide +kernel
theorem dX6_dayGoes_116 : decode cX6_dayGoes 116 = .ok (.getfield 34, 3) := by decide +kernel
theorem dX6_dayGoes_119 : decode cX6_dayGoes 119 = .ok (.iload 5, 2) := by decide +kernel
theorem dX6_dayGoes_121 : decode cX6_dayGoes 121 = .ok (.iaload, 1) := by decide +kernel
theorem dX6_dayGoes_122 : decode cX6_dayGoes 122 = .ok (.ifCond .ne 29, 3) := by decide +kernel
theorem dX6_dayGoes_125 : decode cX6_dayGoes 125 = .ok (.aload_n 0, 1) := by decide +kernel
theorem dX6_dayGoes_126 : decode cX6_dayGoes 126 = .ok (.getfield 7, 3) := by decide +kernel
theorem dX6_dayGoes_129 : decode cX6_dayGoes 129 = .ok (.iload_n 1, 1) := by decide +kernel
theorem dX6_dayGoes_130 : decode cX6_dayGoes 130 = .ok (.bipush 12, 2) := by decide +kernel
theorem dX6_dayGoes_132 : decode cX6_dayGoes 132 = .ok (.iadd, 1) := by decide +kernel
theorem dX6_dayGoes_133 : decode cX6_dayGoes 133 = .ok (.iload 5, 2) := by decide +kernel
theorem dX6_dayGoes_135 : decode cX6_dayGoes 135 = .ok (.iadd, 1) := by decide +kernel
theorem dX6_dayGoes_136 : decode cX6_dayGoes 136 = .ok (.iaload, 1) := by decide +kernel
theorem dX6_dayGoes_137 : decode cX6_dayGoes 137 = .ok (.iload 4, 2) := by decide +kernel
theorem dX6_dayGoes_139 : decode cX6_dayGoes 139 = .ok (.if_icmp .gt 12, 3) := by decide +kernel
theorem dX6_dayGoes_142 : decode cX6_dayGoes 142 = .ok (.aload_n 0, 1) := by decide +kernel
theorem dX6_dayGoes_143 : decode cX6_dayGoes 143 = .ok (.iload_n 1, 1) := by decide +kernel
theorem dX6_dayGoes_144 : decode cX6_dayGoes 144 = .ok (.iload 5, 2) := by decide +kernel
theorem dX6_dayGoes_146 : decode cX6_dayGoes 146 = .ok (.iload 4, 2) := by decide +kernel
theorem dX6_dayGoes_148 : decode cX6_dayGoes 148 = .ok (.invokevirtual 201, 3) := by decide +kernel
theorem dX6_dayGoes_151 : decode cX6_dayGoes 151 = .ok (.iinc 5 1, 3) := by decide +kernel
theorem dX6_dayGoes_154 : decode cX6_dayGoes 154 = .ok (.goto (-45), 3) := by decide +kernel
theorem dX6_dayGoes_157 : decode cX6_dayGoes 157 = .ok (.iconst 0, 1) := by decide +kernel
theorem dX6_dayGoes_158 : decode cX6_dayGoes 158 = .ok (.istore 5, 2) := by decide +kernel
theorem dX6_dayGoes_160 : decode cX6_dayGoes 160 = .ok (.iload 5, 2) := by decide +kernel
theorem dX6_dayGoes_162 : decode cX6_dayGoes 162 = .ok (.iload_n 3, 1) := by decide +kernel
theorem dX6_dayGoes_163 : decode cX6_dayGoes 163 = .ok (.if_icmp .ge 29, 3) := by decide +kernel
theorem dX6_dayGoes_166 : decode cX6_dayGoes 166 = .ok (.aload_n 0, 1) := by decide +kernel
theorem dX6_dayGoes_167 : decode cX6_dayGoes 167 = .ok (.getfield 34, 3) := by decide +kernel
theorem dX6_dayGoes_170 : decode cX6_dayGoes 170 = .ok (.iload 5, 2) := by decide +kernel
theorem dX6_dayGoes_172 : decode cX6_dayGoes 172 = .ok (.iaload, 1) := by decide +kernel
theorem dX6_dayGoes_173 : decode cX6_dayGoes 173 = .ok (.iconst 2, 1) := by decide +kernel
theorem dX6_dayGoes_174 : decode cX6_dayGoes 174 = .ok (.if_icmp .ne 12, 3) := by decide +kernel
theorem dX6_dayGoes_177 : decode cX6_dayGoes 177 = .ok (.aload_n 0, 1) := by decide +kernel
theorem dX6_dayGoes_178 : decode cX6_dayGoes 178 = .ok (.iload_n 1, 1) := by decide +kernel
theorem dX6_dayGoes_179 : decode cX6_dayGoes 179 = .ok (.iload 5, 2) := by decide +kernel
theorem dX6_dayGoes_181 : decode cX6_dayGoes 181 = .ok (.iload 4, 2) := by decide +kernel
theorem dX6_dayGoes_183 : decode cX6_dayGoes 183 = .ok (.invokevirtual 205, 3) := by decide +kernel
theorem dX6_dayGoes_186 : decode cX6_dayGoes 186 = .ok (.iinc 5 1, 3) := by decide +kernel
theorem dX6_dayGoes_189 : decode cX6_dayGoes 189 = .ok (.goto (-29), 3) := by decide +kernel
theorem dX6_dayGoes_192 : decode cX6_dayGoes 192 = .ok (.iinc 4 1, 3) := by decide +kernel
theorem dX6_dayGoes_195 : decode cX6_dayGoes 195 = .ok (.goto (-95), 3) := by decide +kernel
theorem dX6_dayGoes_198 : decode cX6_dayGoes 198 = .ok (.return_, 1) := by decide +kernel
theorem dX6_estatesOf_0 : decode cX6_estatesOf 0 = .ok (.iconst 0, 1) := by decide +kernel
theorem dX6_estatesOf_1 : decode cX6_estatesOf 1 = .ok (.istore_n 3, 1) := by decide +kernel
theorem dX6_estatesOf_2 : decode cX6_estatesOf 2 = .ok (.iconst 0, 1) := by decide +kernel
theorem dX6_estatesOf_3 : decode cX6_estatesOf 3 = .ok (.istore 4, 2) := by decide +kernel
theorem dX6_estatesOf_5 : decode cX6_estatesOf 5 = .ok (.iload 4, 2) := by decide +kernel
theorem dX6_estatesOf_7 : decode cX6_estatesOf 7 = .ok (.aload_n 0, 1) := by decide +kernel
theorem dX6_estatesOf_8 : decode cX6_estatesOf 8 = .ok (.getfield 7, 3) := by decide +kernel
theorem dX6_estatesOf_11 : decode cX6_estatesOf 11 = .ok (.iload_n 1, 1) := by decide +kernel
theorem dX6_estatesOf_12 : decode cX6_estatesOf 12 = .ok (.bipush 20, 2) := by decide +kernel
theorem dX6_estatesOf_14 : decode cX6_estatesOf 14 = .ok (.iadd, 1) := by decide +kernel
theorem dX6_estatesOf_15 : decode cX6_estatesOf 15 = .ok (.iaload, 1) := by decide +kernel
theorem dX6_estatesOf_16 : decode cX6_estatesOf 16 = .ok (.if_icmp .ge 56, 3) := by decide +kernel
theorem dX6_estatesOf_19 : decode cX6_estatesOf 19 = .ok (.iload_n 3, 1) := by decide +kernel
theorem dX6_estatesOf_20 : decode cX6_estatesOf 20 = .ok (.aload_n 0, 1) := by decide +kernel
theorem dX6_estatesOf_21 : decode cX6_estatesOf 21 = .ok (.getfield 34, 3) := by decide +kernel
theorem dX6_estatesOf_24 : decode cX6_estatesOf 24 = .ok (.iload 4, 2) := by decide +kernel
theorem dX6_estatesOf_26 : decode cX6_estatesOf 26 = .ok (.iaload, 1) := by decide +kernel
theorem dX6_estatesOf_27 : decode cX6_estatesOf 27 = .ok (.iconst 1, 1) := by decide +kernel
theorem dX6_estatesOf_28 : decode cX6_estatesOf 28 = .ok (.if_icmp .ne 35, 3) := by decide +kernel
theorem dX6_estatesOf_31 : decode cX6_estatesOf 31 = .ok (.iload_n 2, 1) := by decide +kernel
theorem dX6_estatesOf_32 : decode cX6_estatesOf 32 = .ok (.bipush (-4), 2) := by decide +kernel
theorem dX6_estatesOf_34 : decode cX6_estatesOf 34 = .ok (.if_icmp .eq 14, 3) := by decide +kernel
theorem dX6_estatesOf_37 : decode cX6_estatesOf 37 = .ok (.aload_n 0, 1) := by decide +kernel
theorem dX6_estatesOf_38 : decode cX6_estatesOf 38 = .ok (.getfield 40, 3) := by decide +kernel
theorem dX6_estatesOf_41 : decode cX6_estatesOf 41 = .ok (.iload 4, 2) := by decide +kernel
theorem dX6_estatesOf_43 : decode cX6_estatesOf 43 = .ok (.iaload, 1) := by decide +kernel
theorem dX6_estatesOf_44 : decode cX6_estatesOf 44 = .ok (.iload_n 2, 1) := by decide +kernel
theorem dX6_estatesOf_45 : decode cX6_estatesOf 45 = .ok (.if_icmp .ne 18, 3) := by decide +kernel
theorem dX6_estatesOf_48 : decode cX6_estatesOf 48 = .ok (.aload_n 0, 1) := by decide +kernel
theorem dX6_estatesOf_49 : decode cX6_estatesOf 49 = .ok (.getfield 7, 3) := by decide +kernel
theorem dX6_estatesOf_52 : decode cX6_estatesOf 52 = .ok (.iload_n 1, 1) := by decide +kernel
theorem dX6_estatesOf_53 : decode cX6_estatesOf 53 = .ok (.bipush 16, 2) := by decide +kernel
theorem dX6_estatesOf_55 : decode cX6_estatesOf 55 = .ok (.iadd, 1) := by decide +kernel
theorem dX6_estatesOf_56 : decode cX6_estatesOf 56 = .ok (.iload 4, 2) := by decide +kernel
theorem dX6_estatesOf_58 : decode cX6_estatesOf 58 = .ok (.iadd, 1) := by decide +kernel
theorem dX6_estatesOf_59 : decode cX6_estatesOf 59 = .ok (.iaload, 1) := by decide +kernel
theorem dX6_estatesOf_60 : decode cX6_estatesOf 60 = .ok (.goto 4, 3) := by decide +kernel
theorem dX6_estatesOf_63 : decode cX6_estatesOf 63 = .ok (.iconst 0, 1) := by decide +kernel
theorem dX6_estatesOf_64 : decode cX6_estatesOf 64 = .ok (.iadd, 1) := by decide +kernel
theorem dX6_estatesOf_65 : decode cX6_estatesOf 65 = .ok (.istore_n 3, 1) := by decide +kernel
theorem dX6_estatesOf_66 : decode cX6_estatesOf 66 = .ok (.iinc 4 1, 3) := by decide +kernel
theorem dX6_estatesOf_69 : decode cX6_estatesOf 69 = .ok (.goto (-64), 3) := by decide +kernel
theorem dX6_estatesOf_72 : decode cX6_estatesOf 72 = .ok (.iload_n 3, 1) := by decide +kernel
theorem dX6_estatesOf_73 : decode cX6_estatesOf 73 = .ok (.ireturn, 1) := by decide +kernel
theorem dX6_worth_0 : decode cX6_worth 0 = .ok (.aload_n 0, 1) := by decide +kernel
theorem dX6_worth_1 : decode cX6_worth 1 = .ok (.iload_n 1, 1) := by decide +kernel
theorem dX6_worth_2 : decode cX6_worth 2 = .ok (.bipush 24, 2) := by decide +kernel
theorem dX6_worth_4 : decode cX6_worth 4 = .ok (.invokevirtual 208, 3) := by decide +kernel
theorem dX6_worth_7 : decode cX6_worth 7 = .ok (.aload_n 0, 1) := by decide +kernel
theorem dX6_worth_8 : decode cX6_worth 8 = .ok (.iload_n 1, 1) := by decide +kernel
theorem dX6_worth_9 : decode cX6_worth 9 = .ok (.iload_n 2, 1) := by decide +kernel
theorem dX6_worth_10 : decode cX6_worth 10 = .ok (.invokevirtual 212, 3) := by decide +kernel
theorem dX6_worth_13 : decode cX6_worth 13 = .ok (.ireturn, 1) := by decide +kernel
theorem dX6_tubsOf_0 : decode cX6_tubsOf 0 = .ok (.iconst 0, 1) := by decide +kernel
theorem dX6_tubsOf_1 : decode cX6_tubsOf 1 = .ok (.istore_n 3, 1) := by decide +kernel
theorem dX6_tubsOf_2 : decode cX6_tubsOf 2 = .ok (.iconst 0, 1) := by decide +kernel
theorem dX6_tubsOf_3 : decode cX6_tubsOf 3 = .ok (.istore 4, 2) := by decide +kernel
theorem dX6_tubsOf_5 : decode cX6_tubsOf 5 = .ok (.iload 4, 2) := by decide +kernel
theorem dX6_tubsOf_7 : decode cX6_tubsOf 7 = .ok (.aload_n 0, 1) := by decide +kernel
theorem dX6_tubsOf_8 : decode cX6_tubsOf 8 = .ok (.getfield 7, 3) := by decide +kernel
theorem dX6_tubsOf_11 : decode cX6_tubsOf 11 = .ok (.bipush 20, 2) := by decide +kernel
theorem dX6_tubsOf_13 : decode cX6_tubsOf 13 = .ok (.iaload, 1) := by decide +kernel
theorem dX6_tubsOf_14 : decode cX6_tubsOf 14 = .ok (.if_icmp .ge 48, 3) := by decide +kernel
theorem dX6_tubsOf_17 : decode cX6_tubsOf 17 = .ok (.iload_n 3, 1) := by decide +kernel
theorem dX6_tubsOf_18 : decode cX6_tubsOf 18 = .ok (.aload_n 0, 1) := by decide +kernel
theorem dX6_tubsOf_19 : decode cX6_tubsOf 19 = .ok (.getfield 34, 3) := by decide +kernel
theorem dX6_tubsOf_22 : decode cX6_tubsOf 22 = .ok (.iload 4, 2) := by decide +kernel
theorem dX6_tubsOf_24 : decode cX6_tubsOf 24 = .ok (.iaload, 1) := by decide +kernel
theorem dX6_tubsOf_25 : decode cX6_tubsOf 25 = .ok (.iload_n 1, 1) := by decide +kernel
theorem dX6_tubsOf_26 : decode cX6_tubsOf 26 = .ok (.if_icmp .ne 27, 3) := by decide +kernel
theorem dX6_tubsOf_29 : decode cX6_tubsOf 29 = .ok (.iload_n 2, 1) := by decide +kernel
theorem dX6_tubsOf_30 : decode cX6_tubsOf 30 = .ok (.bipush (-4), 2) := by decide +kernel
theorem dX6_tubsOf_32 : decode cX6_tubsOf 32 = .ok (.if_icmp .eq 14, 3) := by decide +kernel
theorem dX6_tubsOf_35 : decode cX6_tubsOf 35 = .ok (.aload_n 0, 1) := by decide +kernel
theorem dX6_tubsOf_36 : decode cX6_tubsOf 36 = .ok (.getfield 40, 3) := by decide +kernel
theorem dX6_tubsOf_39 : decode cX6_tubsOf 39 = .ok (.iload 4, 2) := by decide +kernel
theorem dX6_tubsOf_41 : decode cX6_tubsOf 41 = .ok (.iaload, 1) := by decide +kernel
theorem dX6_tubsOf_42 : decode cX6_tubsOf 42 = .ok (.iload_n 2, 1) := by decide +kernel
theorem dX6_tubsOf_43 : decode cX6_tubsOf 43 = .ok (.if_icmp .ne 10, 3) := by decide +kernel
theorem dX6_tubsOf_46 : decode cX6_tubsOf 46 = .ok (.iconst 1, 1) := by decide +kernel
theorem dX6_tubsOf_47 : decode cX6_tubsOf 47 = .ok (.iload 4, 2) := by decide +kernel
theorem dX6_tubsOf_49 : decode cX6_tubsOf 49 = .ok (.ishl, 1) := by decide +kernel
theorem dX6_tubsOf_50 : decode cX6_tubsOf 50 = .ok (.goto 4, 3) := by decide +kernel
theorem dX6_tubsOf_53 : decode cX6_tubsOf 53 = .ok (.iconst 0, 1) := by decide +kernel
theorem dX6_tubsOf_54 : decode cX6_tubsOf 54 = .ok (.ior, 1) := by decide +kernel
theorem dX6_tubsOf_55 : decode cX6_tubsOf 55 = .ok (.istore_n 3, 1) := by decide +kernel
theorem dX6_tubsOf_56 : decode cX6_tubsOf 56 = .ok (.iinc 4 1, 3) := by decide +kernel
theorem dX6_tubsOf_59 : decode cX6_tubsOf 59 = .ok (.goto (-54), 3) := by decide +kernel
theorem dX6_tubsOf_62 : decode cX6_tubsOf 62 = .ok (.iload_n 3, 1) := by decide +kernel
theorem dX6_tubsOf_63 : decode cX6_tubsOf 63 = .ok (.ireturn, 1) := by decide +kernel
theorem dX6_fate_0 : decode cX6_fate 0 = .ok (.aload_n 0, 1) := by decide +kernel
theorem dX6_fate_1 : decode cX6_fate 1 = .ok (.iload_n 1, 1) := by decide +kernel
theorem dX6_fate_2 : decode cX6_fate 2 = .ok (.invokevirtual 173, 3) := by decide +kernel
theorem dX6_fate_5 : decode cX6_fate 5 = .ok (.ifCond .eq 15, 3) := by decide +kernel
theorem dX6_fate_8 : decode cX6_fate 8 = .ok (.iload_n 2, 1) := by decide +kernel
theorem dX6_fate_9 : decode cX6_fate 9 = .ok (.i2l, 1) := by decide +kernel
theorem dX6_fate_10 : decode cX6_fate 10 = .ok (.lconst 0, 1) := by decide +kernel
theorem dX6_fate_11 : decode cX6_fate 11 = .ok (.ldc2_w 182, 3) := by decide +kernel
theorem dX6_fate_14 : decode cX6_fate 14 = .ok (.invokestatic 73, 3) := by decide +kernel
theorem dX6_fate_17 : decode cX6_fate 17 = .ok (.ifCond .ne 5, 3) := by decide +kernel
theorem dX6_fate_20 : decode cX6_fate 20 = .ok (.iconst (-1), 1) := by decide +kernel
theorem dX6_fate_21 : decode cX6_fate 21 = .ok (.ireturn, 1) := by decide +kernel
theorem dX6_fate_22 : decode cX6_fate 22 = .ok (.aload_n 0, 1) := by decide +kernel
theorem dX6_fate_23 : decode cX6_fate 23 = .ok (.iconst 0, 1) := by decide +kernel
theorem dX6_fate_24 : decode cX6_fate 24 = .ok (.bipush 24, 2) := by decide +kernel
theorem dX6_fate_26 : decode cX6_fate 26 = .ok (.invokevirtual 208, 3) := by decide +kernel
theorem dX6_fate_29 : decode cX6_fate 29 = .ok (.iload_n 2, 1) := by decide +kernel
theorem dX6_fate_30 : decode cX6_fate 30 = .ok (.ifCond .ne 12, 3) := by decide +kernel
theorem dX6_fate_33 : decode cX6_fate 33 = .ok (.aload_n 0, 1) := by decide +kernel
theorem dX6_fate_34 : decode cX6_fate 34 = .ok (.getfield 34, 3) := by decide +kernel
theorem dX6_fate_37 : decode cX6_fate 37 = .ok (.iload_n 1, 1) := by decide +kernel
theorem dX6_fate_38 : decode cX6_fate 38 = .ok (.iaload, 1) := by decide +kernel
theorem dX6_fate_39 : decode cX6_fate 39 = .ok (.goto 37, 3) := by decide +kernel
theorem dX6_fate_42 : decode cX6_fate 42 = .ok (.iload_n 2, 1) := by decide +kernel
theorem dX6_fate_43 : decode cX6_fate 43 = .ok (.iconst 1, 1) := by decide +kernel
theorem dX6_fate_44 : decode cX6_fate 44 = .ok (.if_icmp .ne 12, 3) := by decide +kernel
theorem dX6_fate_47 : decode cX6_fate 47 = .ok (.aload_n 0, 1) := by decide +kernel
theorem dX6_fate_48 : decode cX6_fate 48 = .ok (.getfield 40, 3) := by decide +kernel
theorem dX6_fate_51 : decode cX6_fate 51 = .ok (.iload_n 1, 1) := by decide +kernel
theorem dX6_fate_52 : decode cX6_fate 52 = .ok (.iaload, 1) := by decide +kernel
theorem dX6_fate_53 : decode cX6_fate 53 = .ok (.goto 23, 3) := by decide +kernel
theorem dX6_fate_56 : decode cX6_fate 56 = .ok (.iload_n 2, 1) := by decide +kernel
theorem dX6_fate_57 : decode cX6_fate 57 = .ok (.iconst 2, 1) := by decide +kernel
theorem dX6_fate_58 : decode cX6_fate 58 = .ok (.if_icmp .ne 12, 3) := by decide +kernel
theorem dX6_fate_61 : decode cX6_fate 61 = .ok (.aload_n 0, 1) := by decide +kernel
theorem dX6_fate_62 : decode cX6_fate 62 = .ok (.getfield 37, 3) := by decide +kernel
theorem dX6_fate_65 : decode cX6_fate 65 = .ok (.iload_n 1, 1) := by decide +kernel
theorem dX6_fate_66 : decode cX6_fate 66 = .ok (.iaload, 1) := by decide +kernel
theorem dX6_fate_67 : decode cX6_fate 67 = .ok (.goto 9, 3) := by decide +kernel
theorem dX6_fate_70 : decode cX6_fate 70 = .ok (.aload_n 0, 1) := by decide +kernel
theorem dX6_fate_71 : decode cX6_fate 71 = .ok (.getfield 43, 3) := by decide +kernel
theorem dX6_fate_74 : decode cX6_fate 74 = .ok (.iload_n 1, 1) := by decide +kernel
theorem dX6_fate_75 : decode cX6_fate 75 = .ok (.iaload, 1) := by decide +kernel
theorem dX6_fate_76 : decode cX6_fate 76 = .ok (.ireturn, 1) := by decide +kernel
theorem dX6_where_0 : decode cX6_where 0 = .ok (.aload_n 0, 1) := by decide +kernel
theorem dX6_where_1 : decode cX6_where 1 = .ok (.iload_n 1, 1) := by decide +kernel
theorem dX6_where_2 : decode cX6_where 2 = .ok (.invokevirtual 173, 3) := by decide +kernel
theorem dX6_where_5 : decode cX6_where 5 = .ok (.ifCond .eq 27, 3) := by decide +kernel
theorem dX6_where_8 : decode cX6_where 8 = .ok (.iload_n 2, 1) := by decide +kernel
theorem dX6_where_9 : decode cX6_where 9 = .ok (.i2l, 1) := by decide +kernel
theorem dX6_where_10 : decode cX6_where 10 = .ok (.lconst 0, 1) := by decide +kernel
theorem dX6_where_11 : decode cX6_where 11 = .ok (.ldc2_w 216, 3) := by decide +kernel
theorem dX6_where_14 : decode cX6_where 14 = .ok (.invokestatic 73, 3) := by decide +kernel
theorem dX6_where_17 : decode cX6_where 17 = .ok (.ifCond .eq 15, 3) := by decide +kernel
theorem dX6_where_20 : decode cX6_where 20 = .ok (.iload_n 3, 1) := by decide +kernel
theorem dX6_where_21 : decode cX6_where 21 = .ok (.i2l, 1) := by decide +kernel
theorem dX6_where_22 : decode cX6_where 22 = .ok (.lconst 0, 1) := by decide +kernel
theorem dX6_where_23 : decode cX6_where 23 = .ok (.ldc2_w 218, 3) := by decide +kernel
theorem dX6_where_26 : decode cX6_where 26 = .ok (.invokestatic 73, 3) := by decide +kernel
theorem dX6_where_29 : decode cX6_where 29 = .ok (.ifCond .ne 5, 3) := by decide +kernel
theorem dX6_where_32 : decode cX6_where 32 = .ok (.iconst (-1), 1) := by decide +kernel
theorem dX6_where_33 : decode cX6_where 33 = .ok (.ireturn, 1) := by decide +kernel
theorem dX6_where_34 : decode cX6_where 34 = .ok (.aload_n 0, 1) := by decide +kernel
theorem dX6_where_35 : decode cX6_where 35 = .ok (.iconst 0, 1) := by decide +kernel
theorem dX6_where_36 : decode cX6_where 36 = .ok (.iload_n 2, 1) := by decide +kernel
theorem dX6_where_37 : decode cX6_where 37 = .ok (.invokevirtual 208, 3) := by decide +kernel
theorem dX6_where_40 : decode cX6_where 40 = .ok (.iload_n 3, 1) := by decide +kernel
theorem dX6_where_41 : decode cX6_where 41 = .ok (.ifCond .ne 15, 3) := by decide +kernel
theorem dX6_where_44 : decode cX6_where 44 = .ok (.bipush 10, 2) := by decide +kernel
theorem dX6_where_46 : decode cX6_where 46 = .ok (.aload_n 0, 1) := by decide +kernel
theorem dX6_where_47 : decode cX6_where 47 = .ok (.getfield 28, 3) := by decide +kernel
theorem dX6_where_50 : decode cX6_where 50 = .ok (.iload_n 1, 1) := by decide +kernel
theorem dX6_where_51 : decode cX6_where 51 = .ok (.iaload, 1) := by decide +kernel
theorem dX6_where_52 : decode cX6_where 52 = .ok (.iadd, 1) := by decide +kernel
theorem dX6_where_53 : decode cX6_where 53 = .ok (.goto 23, 3) := by decide +kernel
theorem dX6_where_56 : decode cX6_where 56 = .ok (.iload_n 3, 1) := by decide +kernel
theorem dX6_where_57 : decode cX6_where 57 = .ok (.iconst 1, 1) := by decide +kernel
theorem dX6_where_58 : decode cX6_where 58 = .ok (.if_icmp .ne 12, 3) := by decide +kernel
theorem dX6_where_61 : decode cX6_where 61 = .ok (.aload_n 0, 1) := by decide +kernel
theorem dX6_where_62 : decode cX6_where 62 = .ok (.getfield 31, 3) := by decide +kernel
theorem dX6_where_65 : decode cX6_where 65 = .ok (.iload_n 1, 1) := by decide +kernel
theorem dX6_where_66 : decode cX6_where 66 = .ok (.iaload, 1) := by decide +kernel
theorem dX6_where_67 : decode cX6_where 67 = .ok (.goto 9, 3) := by decide +kernel
theorem dX6_where_70 : decode cX6_where 70 = .ok (.aload_n 0, 1) := by decide +kernel
theorem dX6_where_71 : decode cX6_where 71 = .ok (.getfield 34, 3) := by decide +kernel
theorem dX6_where_74 : decode cX6_where 74 = .ok (.iload_n 1, 1) := by decide +kernel
theorem dX6_where_75 : decode cX6_where 75 = .ok (.iaload, 1) := by decide +kernel
theorem dX6_where_76 : decode cX6_where 76 = .ok (.ireturn, 1) := by decide +kernel
theorem dX6_has_0 : decode cX6_has 0 = .ok (.aload_n 0, 1) := by decide +kernel
theorem dX6_has_1 : decode cX6_has 1 = .ok (.iload_n 1, 1) := by decide +kernel
theorem dX6_has_2 : decode cX6_has 2 = .ok (.invokevirtual 179, 3) := by decide +kernel
theorem dX6_has_5 : decode cX6_has 5 = .ok (.ifCond .eq 13, 3) := by decide +kernel
theorem dX6_has_8 : decode cX6_has 8 = .ok (.iload_n 2, 1) := by decide +kernel
theorem dX6_has_9 : decode cX6_has 9 = .ok (.i2l, 1) := by decide +kernel
theorem dX6_has_10 : decode cX6_has 10 = .ok (.lconst 0, 1) := by decide +kernel
theorem dX6_has_11 : decode cX6_has 11 = .ok (.lconst 1, 1) := by decide +kernel
theorem dX6_has_12 : decode cX6_has 12 = .ok (.invokestatic 73, 3) := by decide +kernel
theorem dX6_has_15 : decode cX6_has 15 = .ok (.ifCond .ne 5, 3) := by decide +kernel
theorem dX6_has_18 : decode cX6_has 18 = .ok (.iconst (-1), 1) := by decide +kernel
theorem dX6_has_19 : decode cX6_has 19 = .ok (.ireturn, 1) := by decide +kernel
theorem dX6_has_20 : decode cX6_has 20 = .ok (.aload_n 0, 1) := by decide +kernel
theorem dX6_has_21 : decode cX6_has 21 = .ok (.iconst 0, 1) := by decide +kernel
theorem dX6_has_22 : decode cX6_has 22 = .ok (.iload_n 1, 1) := by decide +kernel
theorem dX6_has_23 : decode cX6_has 23 = .ok (.invokevirtual 220, 3) := by decide +kernel
theorem dX6_has_26 : decode cX6_has 26 = .ok (.istore_n 3, 1) := by decide +kernel
theorem dX6_has_27 : decode cX6_has 27 = .ok (.iload_n 2, 1) := by decide +kernel
theorem dX6_has_28 : decode cX6_has 28 = .ok (.ifCond .ne 7, 3) := by decide +kernel
theorem dX6_has_31 : decode cX6_has 31 = .ok (.iload_n 3, 1) := by decide +kernel
theorem dX6_has_32 : decode cX6_has 32 = .ok (.goto 9, 3) := by decide +kernel
theorem dX6_has_35 : decode cX6_has 35 = .ok (.aload_n 0, 1) := by decide +kernel
theorem dX6_has_36 : decode cX6_has 36 = .ok (.iconst 1, 1) := by decide +kernel
theorem dX6_has_37 : decode cX6_has 37 = .ok (.iload_n 1, 1) := by decide +kernel
theorem dX6_has_38 : decode cX6_has 38 = .ok (.invokevirtual 223, 3) := by decide +kernel
theorem dX6_has_41 : decode cX6_has 41 = .ok (.ireturn, 1) := by decide +kernel
theorem dX6_all_0 : decode cX6_all 0 = .ok (.iload_n 1, 1) := by decide +kernel
theorem dX6_all_1 : decode cX6_all 1 = .ok (.i2l, 1) := by decide +kernel
theorem dX6_all_2 : decode cX6_all 2 = .ok (.lconst 0, 1) := by decide +kernel
theorem dX6_all_3 : decode cX6_all 3 = .ok (.ldc2_w 189, 3) := by decide +kernel
theorem dX6_all_6 : decode cX6_all 6 = .ok (.invokestatic 73, 3) := by decide +kernel
theorem dX6_all_9 : decode cX6_all 9 = .ok (.ifCond .ne 5, 3) := by decide +kernel
theorem dX6_all_12 : decode cX6_all 12 = .ok (.iconst (-1), 1) := by decide +kernel
theorem dX6_all_13 : decode cX6_all 13 = .ok (.ireturn, 1) := by decide +kernel
theorem dX6_all_14 : decode cX6_all 14 = .ok (.aload_n 0, 1) := by decide +kernel
theorem dX6_all_15 : decode cX6_all 15 = .ok (.iconst 0, 1) := by decide +kernel
theorem dX6_all_16 : decode cX6_all 16 = .ok (.bipush (-4), 2) := by decide +kernel
theorem dX6_all_18 : decode cX6_all 18 = .ok (.invokevirtual 220, 3) := by decide +kernel
theorem dX6_all_21 : decode cX6_all 21 = .ok (.istore_n 2, 1) := by decide +kernel
theorem dX6_all_22 : decode cX6_all 22 = .ok (.iload_n 1, 1) := by decide +kernel
theorem dX6_all_23 : decode cX6_all 23 = .ok (.iconst 4, 1) := by decide +kernel
theorem dX6_all_24 : decode cX6_all 24 = .ok (.if_icmp .ne 7, 3) := by decide +kernel
theorem dX6_all_27 : decode cX6_all 27 = .ok (.iload_n 2, 1) := by decide +kernel
theorem dX6_all_28 : decode cX6_all 28 = .ok (.goto 10, 3) := by decide +kernel
theorem dX6_all_31 : decode cX6_all 31 = .ok (.aload_n 0, 1) := by decide +kernel
theorem dX6_all_32 : decode cX6_all 32 = .ok (.iload_n 1, 1) := by decide +kernel
theorem dX6_all_33 : decode cX6_all 33 = .ok (.bipush (-4), 2) := by decide +kernel
theorem dX6_all_35 : decode cX6_all 35 = .ok (.invokevirtual 223, 3) := by decide +kernel
theorem dX6_all_38 : decode cX6_all 38 = .ok (.ireturn, 1) := by decide +kernel
theorem dX6_copies_0 : decode cX6_copies 0 = .ok (.iconst 0, 1) := by decide +kernel
theorem dX6_copies_1 : decode cX6_copies 1 = .ok (.istore_n 3, 1) := by decide +kernel
theorem dX6_copies_2 : decode cX6_copies 2 = .ok (.iload_n 3, 1) := by decide +kernel
theorem dX6_copies_3 : decode cX6_copies 3 = .ok (.bipush 72, 2) := by decide +kernel
theorem dX6_copies_5 : decode cX6_copies 5 = .ok (.if_icmp .ge 25, 3) := by decide +kernel
theorem dX6_copies_8 : decode cX6_copies 8 = .ok (.aload_n 0, 1) := by decide +kernel
theorem dX6_copies_9 : decode cX6_copies 9 = .ok (.getfield 7, 3) := by decide +kernel
theorem dX6_copies_12 : decode cX6_copies 12 = .ok (.iload_n 2, 1) := by decide +kernel
theorem dX6_copies_13 : decode cX6_copies 13 = .ok (.iload_n 3, 1) := by decide +kernel
theorem dX6_copies_14 : decode cX6_copies 14 = .ok (.iadd, 1) := by decide +kernel
theorem dX6_copies_15 : decode cX6_copies 15 = .ok (.aload_n 0, 1) := by decide +kernel
theorem dX6_copies_16 : decode cX6_copies 16 = .ok (.getfield 7, 3) := by decide +kernel
theorem dX6_copies_19 : decode cX6_copies 19 = .ok (.iload_n 1, 1) := by decide +kernel
theorem dX6_copies_20 : decode cX6_copies 20 = .ok (.iload_n 3, 1) := by decide +kernel
theorem dX6_copies_21 : decode cX6_copies 21 = .ok (.iadd, 1) := by decide +kernel
theorem dX6_copies_22 : decode cX6_copies 22 = .ok (.iaload, 1) := by decide +kernel
theorem dX6_copies_23 : decode cX6_copies 23 = .ok (.iastore, 1) := by decide +kernel
theorem dX6_copies_24 : decode cX6_copies 24 = .ok (.iinc 3 1, 3) := by decide +kernel
theorem dX6_copies_27 : decode cX6_copies 27 = .ok (.goto (-25), 3) := by decide +kernel
theorem dX6_copies_30 : decode cX6_copies 30 = .ok (.return_, 1) := by decide +kernel
theorem dX6_isHooked_0 : decode cX6_isHooked 0 = .ok (.aload_n 0, 1) := by decide +kernel
theorem dX6_isHooked_1 : decode cX6_isHooked 1 = .ok (.sipush 288, 3) := by decide +kernel
theorem dX6_isHooked_4 : decode cX6_isHooked 4 = .ok (.bipush 24, 2) := by decide +kernel
theorem dX6_isHooked_6 : decode cX6_isHooked 6 = .ok (.invokevirtual 208, 3) := by decide +kernel
theorem dX6_isHooked_9 : decode cX6_isHooked 9 = .ok (.aload_n 0, 1) := by decide +kernel
theorem dX6_isHooked_10 : decode cX6_isHooked 10 = .ok (.getfield 34, 3) := by decide +kernel
theorem dX6_isHooked_13 : decode cX6_isHooked 13 = .ok (.iload_n 1, 1) := by decide +kernel
theorem dX6_isHooked_14 : decode cX6_isHooked 14 = .ok (.iaload, 1) := by decide +kernel
theorem dX6_isHooked_15 : decode cX6_isHooked 15 = .ok (.iconst 1, 1) := by decide +kernel
theorem dX6_isHooked_16 : decode cX6_isHooked 16 = .ok (.if_icmp .ne 17, 3) := by decide +kernel
theorem dX6_isHooked_19 : decode cX6_isHooked 19 = .ok (.aload_n 0, 1) := by decide +kernel
theorem dX6_isHooked_20 : decode cX6_isHooked 20 = .ok (.getfield 40, 3) := by decide +kernel
theorem dX6_isHooked_23 : decode cX6_isHooked 23 = .ok (.iload_n 1, 1) := by decide +kernel
theorem dX6_isHooked_24 : decode cX6_isHooked 24 = .ok (.iaload, 1) := by decide +kernel
theorem dX6_isHooked_25 : decode cX6_isHooked 25 = .ok (.iload_n 2, 1) := by decide +kernel
theorem dX6_isHooked_26 : decode cX6_isHooked 26 = .ok (.if_icmp .ne 7, 3) := by decide +kernel
theorem dX6_isHooked_29 : decode cX6_isHooked 29 = .ok (.iconst 1, 1) := by decide +kernel
theorem dX6_isHooked_30 : decode cX6_isHooked 30 = .ok (.goto 4, 3) := by decide +kernel
theorem dX6_isHooked_33 : decode cX6_isHooked 33 = .ok (.iconst 0, 1) := by decide +kernel
theorem dX6_isHooked_34 : decode cX6_isHooked 34 = .ok (.ireturn, 1) := by decide +kernel
theorem dX6_when_0 : decode cX6_when 0 = .ok (.aload_n 0, 1) := by decide +kernel
theorem dX6_when_1 : decode cX6_when 1 = .ok (.iload_n 1, 1) := by decide +kernel
theorem dX6_when_2 : decode cX6_when 2 = .ok (.invokevirtual 173, 3) := by decide +kernel
theorem dX6_when_5 : decode cX6_when 5 = .ok (.ifCond .eq 11, 3) := by decide +kernel
theorem dX6_when_8 : decode cX6_when 8 = .ok (.aload_n 0, 1) := by decide +kernel
theorem dX6_when_9 : decode cX6_when 9 = .ok (.iload_n 2, 1) := by decide +kernel
theorem dX6_when_10 : decode cX6_when 10 = .ok (.invokevirtual 179, 3) := by decide +kernel
theorem dX6_when_13 : decode cX6_when 13 = .ok (.ifCond .ne 5, 3) := by decide +kernel
theorem dX6_when_16 : decode cX6_when 16 = .ok (.iconst (-1), 1) := by decide +kernel
theorem dX6_when_17 : decode cX6_when 17 = .ok (.ireturn, 1) := by decide +kernel
theorem dX6_when_18 : decode cX6_when 18 = .ok (.aload_n 0, 1) := by decide +kernel
theorem dX6_when_19 : decode cX6_when 19 = .ok (.iconst 0, 1) := by decide +kernel
theorem dX6_when_20 : decode cX6_when 20 = .ok (.sipush 288, 3) := by decide +kernel
theorem dX6_when_23 : decode cX6_when 23 = .ok (.invokevirtual 226, 3) := by decide +kernel
theorem dX6_when_26 : decode cX6_when 26 = .ok (.iconst 0, 1) := by decide +kernel
theorem dX6_when_27 : decode cX6_when 27 = .ok (.istore_n 3, 1) := by decide +kernel
theorem dX6_when_28 : decode cX6_when 28 = .ok (.iload_n 3, 1) := by decide +kernel
theorem dX6_when_29 : decode cX6_when 29 = .ok (.bipush 24, 2) := by decide +kernel
theorem dX6_when_31 : decode cX6_when 31 = .ok (.if_icmp .ge 31, 3) := by decide +kernel
theorem dX6_when_34 : decode cX6_when 34 = .ok (.aload_n 0, 1) := by decide +kernel
theorem dX6_when_35 : decode cX6_when 35 = .ok (.getfield 7, 3) := by decide +kernel
theorem dX6_when_38 : decode cX6_when 38 = .ok (.sipush 300, 3) := by decide +kernel
theorem dX6_when_41 : decode cX6_when 41 = .ok (.iload_n 1, 1) := by decide +kernel
theorem dX6_when_42 : decode cX6_when 42 = .ok (.iadd, 1) := by decide +kernel
theorem dX6_when_43 : decode cX6_when 43 = .ok (.iload_n 3, 1) := by decide +kernel
theorem dX6_when_44 : decode cX6_when 44 = .ok (.iastore, 1) := by decide +kernel
theorem dX6_when_45 : decode cX6_when 45 = .ok (.aload_n 0, 1) := by decide +kernel
theorem dX6_when_46 : decode cX6_when 46 = .ok (.iload_n 1, 1) := by decide +kernel
theorem dX6_when_47 : decode cX6_when 47 = .ok (.iload_n 2, 1) := by decide +kernel
theorem dX6_when_48 : decode cX6_when 48 = .ok (.invokevirtual 229, 3) := by decide +kernel
theorem dX6_when_51 : decode cX6_when 51 = .ok (.ifCond .eq 5, 3) := by decide +kernel
theorem dX6_when_54 : decode cX6_when 54 = .ok (.iload_n 3, 1) := by decide +kernel
theorem dX6_when_55 : decode cX6_when 55 = .ok (.ireturn, 1) := by decide +kernel
theorem dX6_when_56 : decode cX6_when 56 = .ok (.iinc 3 1, 3) := by decide +kernel
theorem dX6_when_59 : decode cX6_when 59 = .ok (.goto (-31), 3) := by decide +kernel
theorem dX6_when_62 : decode cX6_when 62 = .ok (.bipush (-4), 2) := by decide +kernel
theorem dX6_when_64 : decode cX6_when 64 = .ok (.ireturn, 1) := by decide +kernel
theorem dX6_aim_0 : decode cX6_aim 0 = .ok (.aload_n 0, 1) := by decide +kernel
theorem dX6_aim_1 : decode cX6_aim 1 = .ok (.iload_n 1, 1) := by decide +kernel
theorem dX6_aim_2 : decode cX6_aim 2 = .ok (.invokevirtual 173, 3) := by decide +kernel
theorem dX6_aim_5 : decode cX6_aim 5 = .ok (.ifCond .eq 11, 3) := by decide +kernel
theorem dX6_aim_8 : decode cX6_aim 8 = .ok (.aload_n 0, 1) := by decide +kernel
theorem dX6_aim_9 : decode cX6_aim 9 = .ok (.iload_n 2, 1) := by decide +kernel
theorem dX6_aim_10 : decode cX6_aim 10 = .ok (.invokevirtual 179, 3) := by decide +kernel
theorem dX6_aim_13 : decode cX6_aim 13 = .ok (.ifCond .ne 5, 3) := by decide +kernel
theorem dX6_aim_16 : decode cX6_aim 16 = .ok (.iconst (-1), 1) := by decide +kernel
theorem dX6_aim_17 : decode cX6_aim 17 = .ok (.ireturn, 1) := by decide +kernel
theorem dX6_aim_18 : decode cX6_aim 18 = .ok (.aload_n 0, 1) := by decide +kernel
theorem dX6_aim_19 : decode cX6_aim 19 = .ok (.iconst 0, 1) := by decide +kernel
theorem dX6_aim_20 : decode cX6_aim 20 = .ok (.sipush 288, 3) := by decide +kernel
theorem dX6_aim_23 : decode cX6_aim 23 = .ok (.invokevirtual 226, 3) := by decide +kernel
theorem dX6_aim_26 : decode cX6_aim 26 = .ok (.iconst 0, 1) := by decide +kernel
theorem dX6_aim_27 : decode cX6_aim 27 = .ok (.istore_n 3, 1) := by decide +kernel
theorem dX6_aim_28 : decode cX6_aim 28 = .ok (.iload_n 3, 1) := by decide +kernel
theorem dX6_aim_29 : decode cX6_aim 29 = .ok (.bipush 100, 2) := by decide +kernel
theorem dX6_aim_31 : decode cX6_aim 31 = .ok (.if_icmp .ge 55, 3) := by decide +kernel
theorem dX6_aim_34 : decode cX6_aim 34 = .ok (.aload_n 0, 1) := by decide +kernel
theorem dX6_aim_35 : decode cX6_aim 35 = .ok (.getfield 7, 3) := by decide +kernel
theorem dX6_aim_38 : decode cX6_aim 38 = .ok (.sipush 292, 3) := by decide +kernel
theorem dX6_aim_41 : decode cX6_aim 41 = .ok (.iload_n 1, 1) := by decide +kernel
theorem dX6_aim_42 : decode cX6_aim 42 = .ok (.iadd, 1) := by decide +kernel
theorem dX6_aim_43 : decode cX6_aim 43 = .ok (.iload_n 3, 1) := by decide +kernel
theorem dX6_aim_44 : decode cX6_aim 44 = .ok (.bipush 10, 2) := by decide +kernel
theorem dX6_aim_46 : decode cX6_aim 46 = .ok (.idiv, 1) := by decide +kernel
theorem dX6_aim_47 : decode cX6_aim 47 = .ok (.iastore, 1) := by decide +kernel
theorem dX6_aim_48 : decode cX6_aim 48 = .ok (.aload_n 0, 1) := by decide +kernel
theorem dX6_aim_49 : decode cX6_aim 49 = .ok (.getfield 7, 3) := by decide +kernel
theorem dX6_aim_52 : decode cX6_aim 52 = .ok (.sipush 296, 3) := by decide +kernel
theorem dX6_aim_55 : decode cX6_aim 55 = .ok (.iload_n 1, 1) := by decide +kernel
theorem dX6_aim_56 : decode cX6_aim 56 = .ok (.iadd, 1) := by decide +kernel
theorem dX6_aim_57 : decode cX6_aim 57 = .ok (.iload_n 3, 1) := by decide +kernel
theorem dX6_aim_58 : decode cX6_aim 58 = .ok (.bipush 10, 2) := by decide +kernel
theorem dX6_aim_60 : decode cX6_aim 60 = .ok (.irem, 1) := by decide +kernel
theorem dX6_aim_61 : decode cX6_aim 61 = .ok (.iastore, 1) := by decide +kernel
theorem dX6_aim_62 : decode cX6_aim 62 = .ok (.iload_n 3, 1) := by decide +kernel
theorem dX6_aim_63 : decode cX6_aim 63 = .ok (.bipush 10, 2) := by decide +kernel
theorem dX6_aim_65 : decode cX6_aim 65 = .ok (.irem, 1) := by decide +kernel
theorem dX6_aim_66 : decode cX6_aim 66 = .ok (.ifCond .le 14, 3) := by decide +kernel
theorem dX6_aim_69 : decode cX6_aim 69 = .ok (.aload_n 0, 1) := by decide +kernel
theorem dX6_aim_70 : decode cX6_aim 70 = .ok (.iload_n 1, 1) := by decide +kernel
theorem dX6_aim_71 : decode cX6_aim 71 = .ok (.iload_n 2, 1) := by decide +kernel
theorem dX6_aim_72 : decode cX6_aim 72 = .ok (.invokevirtual 229, 3) := by decide +kernel
theorem dX6_aim_75 : decode cX6_aim 75 = .ok (.ifCond .eq 5, 3) := by decide +kernel
theorem dX6_aim_78 : decode cX6_aim 78 = .ok (.iload_n 3, 1) := by decide +kernel
theorem dX6_aim_79 : decode cX6_aim 79 = .ok (.ireturn, 1) := by decide +kernel
theorem dX6_aim_80 : decode cX6_aim 80 = .ok (.iinc 3 1, 3) := by decide +kernel
theorem dX6_aim_83 : decode cX6_aim 83 = .ok (.goto (-55), 3) := by decide +kernel
theorem dX6_aim_86 : decode cX6_aim 86 = .ok (.bipush (-4), 2) := by decide +kernel
theorem dX6_aim_88 : decode cX6_aim 88 = .ok (.ireturn, 1) := by decide +kernel
theorem dX6_ways_0 : decode cX6_ways 0 = .ok (.aload_n 0, 1) := by decide +kernel
theorem dX6_ways_1 : decode cX6_ways 1 = .ok (.iload_n 1, 1) := by decide +kernel
theorem dX6_ways_2 : decode cX6_ways 2 = .ok (.invokevirtual 173, 3) := by decide +kernel
theorem dX6_ways_5 : decode cX6_ways 5 = .ok (.ifCond .eq 15, 3) := by decide +kernel
theorem dX6_ways_8 : decode cX6_ways 8 = .ok (.iload_n 2, 1) := by decide +kernel
theorem dX6_ways_9 : decode cX6_ways 9 = .ok (.i2l, 1) := by decide +kernel
theorem dX6_ways_10 : decode cX6_ways 10 = .ok (.lconst 0, 1) := by decide +kernel
theorem dX6_ways_11 : decode cX6_ways 11 = .ok (.ldc2_w 182, 3) := by decide +kernel
theorem dX6_ways_14 : decode cX6_ways 14 = .ok (.invokestatic 73, 3) := by decide +kernel
theorem dX6_ways_17 : decode cX6_ways 17 = .ok (.ifCond .ne 5, 3) := by decide +kernel
theorem dX6_ways_20 : decode cX6_ways 20 = .ok (.iconst (-1), 1) := by decide +kernel
theorem dX6_ways_21 : decode cX6_ways 21 = .ok (.ireturn, 1) := by decide +kernel
theorem dX6_ways_22 : decode cX6_ways 22 = .ok (.aload_n 0, 1) := by decide +kernel
theorem dX6_ways_23 : decode cX6_ways 23 = .ok (.iconst 0, 1) := by decide +kernel
theorem dX6_ways_24 : decode cX6_ways 24 = .ok (.sipush 288, 3) := by decide +kernel
theorem dX6_ways_27 : decode cX6_ways 27 = .ok (.invokevirtual 226, 3) := by decide +kernel
theorem dX6_ways_30 : decode cX6_ways 30 = .ok (.iconst 0, 1) := by decide +kernel
theorem dX6_ways_31 : decode cX6_ways 31 = .ok (.istore_n 3, 1) := by decide +kernel
theorem dX6_ways_32 : decode cX6_ways 32 = .ok (.iconst 0, 1) := by decide +kernel
theorem dX6_ways_33 : decode cX6_ways 33 = .ok (.istore 4, 2) := by decide +kernel
theorem dX6_ways_35 : decode cX6_ways 35 = .ok (.iload 4, 2) := by decide +kernel
theorem dX6_ways_37 : decode cX6_ways 37 = .ok (.bipush 100, 2) := by decide +kernel
theorem dX6_ways_39 : decode cX6_ways 39 = .ok (.if_icmp .ge 86, 3) := by decide +kernel
theorem dX6_ways_42 : decode cX6_ways 42 = .ok (.aload_n 0, 1) := by decide +kernel
theorem dX6_ways_43 : decode cX6_ways 43 = .ok (.getfield 7, 3) := by decide +kernel
theorem dX6_ways_46 : decode cX6_ways 46 = .ok (.sipush 292, 3) := by decide +kernel
theorem dX6_ways_49 : decode cX6_ways 49 = .ok (.iload_n 1, 1) := by decide +kernel
theorem dX6_ways_50 : decode cX6_ways 50 = .ok (.iadd, 1) := by decide +kernel
theorem dX6_ways_51 : decode cX6_ways 51 = .ok (.iload 4, 2) := by decide +kernel
theorem dX6_ways_53 : decode cX6_ways 53 = .ok (.bipush 10, 2) := by decide +kernel
theorem dX6_ways_55 : decode cX6_ways 55 = .ok (.idiv, 1) := by decide +kernel
theorem dX6_ways_56 : decode cX6_ways 56 = .ok (.iastore, 1) := by decide +kernel
theorem dX6_ways_57 : decode cX6_ways 57 = .ok (.aload_n 0, 1) := by decide +kernel
theorem dX6_ways_58 : decode cX6_ways 58 = .ok (.getfield 7, 3) := by decide +kernel
theorem dX6_ways_61 : decode cX6_ways 61 = .ok (.sipush 296, 3) := by decide +kernel
theorem dX6_ways_64 : decode cX6_ways 64 = .ok (.iload_n 1, 1) := by decide +kernel
theorem dX6_ways_65 : decode cX6_ways 65 = .ok (.iadd, 1) := by decide +kernel
theorem dX6_ways_66 : decode cX6_ways 66 = .ok (.iload 4, 2) := by decide +kernel
theorem dX6_ways_68 : decode cX6_ways 68 = .ok (.bipush 10, 2) := by decide +kernel
theorem dX6_ways_70 : decode cX6_ways 70 = .ok (.irem, 1) := by decide +kernel
theorem dX6_ways_71 : decode cX6_ways 71 = .ok (.ifCond .ne 7, 3) := by decide +kernel
theorem dX6_ways_74 : decode cX6_ways 74 = .ok (.iconst 1, 1) := by decide +kernel
theorem dX6_ways_75 : decode cX6_ways 75 = .ok (.goto 8, 3) := by decide +kernel
theorem dX6_ways_78 : decode cX6_ways 78 = .ok (.iload 4, 2) := by decide +kernel
theorem dX6_ways_80 : decode cX6_ways 80 = .ok (.bipush 10, 2) := by decide +kernel
theorem dX6_ways_82 : decode cX6_ways 82 = .ok (.irem, 1) := by decide +kernel
theorem dX6_ways_83 : decode cX6_ways 83 = .ok (.iastore, 1) := by decide +kernel
theorem dX6_ways_84 : decode cX6_ways 84 = .ok (.aload_n 0, 1) := by decide +kernel
theorem dX6_ways_85 : decode cX6_ways 85 = .ok (.sipush 288, 3) := by decide +kernel
theorem dX6_ways_88 : decode cX6_ways 88 = .ok (.bipush 24, 2) := by decide +kernel
theorem dX6_ways_90 : decode cX6_ways 90 = .ok (.invokevirtual 208, 3) := by decide +kernel
theorem dX6_ways_93 : decode cX6_ways 93 = .ok (.iload_n 3, 1) := by decide +kernel
theorem dX6_ways_94 : decode cX6_ways 94 = .ok (.iload 4, 2) := by decide +kernel
theorem dX6_ways_96 : decode cX6_ways 96 = .ok (.bipush 10, 2) := by decide +kernel
theorem dX6_ways_98 : decode cX6_ways 98 = .ok (.irem, 1) := by decide +kernel
theorem dX6_ways_99 : decode cX6_ways 99 = .ok (.ifCond .le 17, 3) := by decide +kernel
theorem dX6_ways_102 : decode cX6_ways 102 = .ok (.aload_n 0, 1) := by decide +kernel
theorem dX6_ways_103 : decode cX6_ways 103 = .ok (.getfield 34, 3) := by decide +kernel
theorem dX6_ways_106 : decode cX6_ways 106 = .ok (.iload_n 1, 1) := by decide +kernel
theorem dX6_ways_107 : decode cX6_ways 107 = .ok (.iaload, 1) := by decide +kernel
theorem dX6_ways_108 : decode cX6_ways 108 = .ok (.iload_n 2, 1) := by decide +kernel
theorem dX6_ways_109 : decode cX6_ways 109 = .ok (.if_icmp .ne 7, 3) := by decide +kernel
theorem dX6_ways_112 : decode cX6_ways 112 = .ok (.iconst 1, 1) := by decide +kernel
theorem dX6_ways_113 : decode cX6_ways 113 = .ok (.goto 4, 3) := by decide +kernel
theorem dX6_ways_116 : decode cX6_ways 116 = .ok (.iconst 0, 1) := by decide +kernel
theorem dX6_ways_117 : decode cX6_ways 117 = .ok (.iadd, 1) := by decide +kernel
theorem dX6_ways_118 : decode cX6_ways 118 = .ok (.istore_n 3, 1) := by decide +kernel
theorem dX6_ways_119 : decode cX6_ways 119 = .ok (.iinc 4 1, 3) := by decide +kernel
theorem dX6_ways_122 : decode cX6_ways 122 = .ok (.goto (-87), 3) := by decide +kernel
theorem dX6_ways_125 : decode cX6_ways 125 = .ok (.iload_n 3, 1) := by decide +kernel
theorem dX6_ways_126 : decode cX6_ways 126 = .ok (.ireturn, 1) := by decide +kernel
theorem dX6_place_0 : decode cX6_place 0 = .ok (.aload_n 0, 1) := by decide +kernel
theorem dX6_place_1 : decode cX6_place 1 = .ok (.iload_n 1, 1) := by decide +kernel
theorem dX6_place_2 : decode cX6_place 2 = .ok (.invokevirtual 179, 3) := by decide +kernel
theorem dX6_place_5 : decode cX6_place 5 = .ok (.ifCond .eq 13, 3) := by decide +kernel
theorem dX6_place_8 : decode cX6_place 8 = .ok (.iload_n 2, 1) := by decide +kernel
theorem dX6_place_9 : decode cX6_place 9 = .ok (.i2l, 1) := by decide +kernel
theorem dX6_place_10 : decode cX6_place 10 = .ok (.lconst 0, 1) := by decide +kernel
theorem dX6_place_11 : decode cX6_place 11 = .ok (.lconst 1, 1) := by decide +kernel
theorem dX6_place_12 : decode cX6_place 12 = .ok (.invokestatic 73, 3) := by decide +kernel
theorem dX6_place_15 : decode cX6_place 15 = .ok (.ifCond .ne 5, 3) := by decide +kernel
theorem dX6_place_18 : decode cX6_place 18 = .ok (.iconst (-1), 1) := by decide +kernel
theorem dX6_place_19 : decode cX6_place 19 = .ok (.ireturn, 1) := by decide +kernel
theorem dX6_place_20 : decode cX6_place 20 = .ok (.aload_n 0, 1) := by decide +kernel
theorem dX6_place_21 : decode cX6_place 21 = .ok (.iconst 0, 1) := by decide +kernel
theorem dX6_place_22 : decode cX6_place 22 = .ok (.sipush 288, 3) := by decide +kernel
theorem dX6_place_25 : decode cX6_place 25 = .ok (.invokevirtual 226, 3) := by decide +kernel
theorem dX6_place_28 : decode cX6_place 28 = .ok (.iconst (-1), 1) := by decide +kernel
theorem dX6_place_29 : decode cX6_place 29 = .ok (.istore_n 3, 1) := by decide +kernel
theorem dX6_place_30 : decode cX6_place 30 = .ok (.iconst 0, 1) := by decide +kernel
theorem dX6_place_31 : decode cX6_place 31 = .ok (.istore 4, 2) := by decide +kernel
theorem dX6_place_33 : decode cX6_place 33 = .ok (.iconst 0, 1) := by decide +kernel
theorem dX6_place_34 : decode cX6_place 34 = .ok (.istore 5, 2) := by decide +kernel
theorem dX6_place_36 : decode cX6_place 36 = .ok (.iload 5, 2) := by decide +kernel
theorem dX6_place_38 : decode cX6_place 38 = .ok (.bipush 9, 2) := by decide +kernel
theorem dX6_place_40 : decode cX6_place 40 = .ok (.if_icmp .gt 61, 3) := by decide +kernel
theorem dX6_place_43 : decode cX6_place 43 = .ok (.aload_n 0, 1) := by decide +kernel
theorem dX6_place_44 : decode cX6_place 44 = .ok (.getfield 7, 3) := by decide +kernel
theorem dX6_place_47 : decode cX6_place 47 = .ok (.sipush 309, 3) := by decide +kernel
theorem dX6_place_50 : decode cX6_place 50 = .ok (.iconst 4, 1) := by decide +kernel
theorem dX6_place_51 : decode cX6_place 51 = .ok (.iload_n 1, 1) := by decide +kernel
theorem dX6_place_52 : decode cX6_place 52 = .ok (.imul, 1) := by decide +kernel
theorem dX6_place_53 : decode cX6_place 53 = .ok (.iadd, 1) := by decide +kernel
theorem dX6_place_54 : decode cX6_place 54 = .ok (.iload 5, 2) := by decide +kernel
theorem dX6_place_56 : decode cX6_place 56 = .ok (.iastore, 1) := by decide +kernel
theorem dX6_place_57 : decode cX6_place 57 = .ok (.aload_n 0, 1) := by decide +kernel
theorem dX6_place_58 : decode cX6_place 58 = .ok (.sipush 288, 3) := by decide +kernel
theorem dX6_place_61 : decode cX6_place 61 = .ok (.iload_n 1, 1) := by decide +kernel
theorem dX6_place_62 : decode cX6_place 62 = .ok (.invokevirtual 220, 3) := by decide +kernel
theorem dX6_place_65 : decode cX6_place 65 = .ok (.istore 6, 2) := by decide +kernel
theorem dX6_place_67 : decode cX6_place 67 = .ok (.iload 6, 2) := by decide +kernel
theorem dX6_place_69 : decode cX6_place 69 = .ok (.iload_n 3, 1) := by decide +kernel
theorem dX6_place_70 : decode cX6_place 70 = .ok (.if_icmp .le 8, 3) := by decide +kernel
theorem dX6_place_73 : decode cX6_place 73 = .ok (.iload 5, 2) := by decide +kernel
theorem dX6_place_75 : decode cX6_place 75 = .ok (.goto 5, 3) := by decide +kernel
theorem dX6_place_78 : decode cX6_place 78 = .ok (.iload 4, 2) := by decide +kernel
theorem dX6_place_80 : decode cX6_place 80 = .ok (.istore 4, 2) := by decide +kernel
theorem dX6_place_82 : decode cX6_place 82 = .ok (.iload 6, 2) := by decide +kernel
theorem dX6_place_84 : decode cX6_place 84 = .ok (.iload_n 3, 1) := by decide +kernel
theorem dX6_place_85 : decode cX6_place 85 = .ok (.if_icmp .le 8, 3) := by decide +kernel
theorem dX6_place_88 : decode cX6_place 88 = .ok (.iload 6, 2) := by decide +kernel
theorem dX6_place_90 : decode cX6_place 90 = .ok (.goto 4, 3) := by decide +kernel
theorem dX6_place_93 : decode cX6_place 93 = .ok (.iload_n 3, 1) := by decide +kernel
theorem dX6_place_94 : decode cX6_place 94 = .ok (.istore_n 3, 1) := by decide +kernel
theorem dX6_place_95 : decode cX6_place 95 = .ok (.iinc 5 1, 3) := by decide +kernel
theorem dX6_place_98 : decode cX6_place 98 = .ok (.goto (-62), 3) := by decide +kernel
theorem dX6_place_101 : decode cX6_place 101 = .ok (.iload_n 2, 1) := by decide +kernel
theorem dX6_place_102 : decode cX6_place 102 = .ok (.ifCond .ne 8, 3) := by decide +kernel
theorem dX6_place_105 : decode cX6_place 105 = .ok (.iload 4, 2) := by decide +kernel
theorem dX6_place_107 : decode cX6_place 107 = .ok (.goto 4, 3) := by decide +kernel
theorem dX6_place_110 : decode cX6_place 110 = .ok (.iload_n 3, 1) := by decide +kernel
theorem dX6_place_111 : decode cX6_place 111 = .ok (.ireturn, 1) := by decide +kernel
theorem dX6_hook_0 : decode cX6_hook 0 = .ok (.aload_n 0, 1) := by decide +kernel
theorem dX6_hook_1 : decode cX6_hook 1 = .ok (.iload_n 1, 1) := by decide +kernel
theorem dX6_hook_2 : decode cX6_hook 2 = .ok (.invokevirtual 179, 3) := by decide +kernel
theorem dX6_hook_5 : decode cX6_hook 5 = .ok (.ifCond .eq 15, 3) := by decide +kernel
theorem dX6_hook_8 : decode cX6_hook 8 = .ok (.iload_n 2, 1) := by decide +kernel
theorem dX6_hook_9 : decode cX6_hook 9 = .ok (.i2l, 1) := by decide +kernel
theorem dX6_hook_10 : decode cX6_hook 10 = .ok (.lconst 1, 1) := by decide +kernel
theorem dX6_hook_11 : decode cX6_hook 11 = .ok (.ldc2_w 233, 3) := by decide +kernel
theorem dX6_hook_14 : decode cX6_hook 14 = .ok (.invokestatic 73, 3) := by decide +kernel
theorem dX6_hook_17 : decode cX6_hook 17 = .ok (.ifCond .ne 5, 3) := by decide +kernel
theorem dX6_hook_20 : decode cX6_hook 20 = .ok (.iconst (-1), 1) := by decide +kernel
theorem dX6_hook_21 : decode cX6_hook 21 = .ok (.ireturn, 1) := by decide +kernel
theorem dX6_hook_22 : decode cX6_hook 22 = .ok (.aload_n 0, 1) := by decide +kernel
theorem dX6_hook_23 : decode cX6_hook 23 = .ok (.iconst 0, 1) := by decide +kernel
theorem dX6_hook_24 : decode cX6_hook 24 = .ok (.sipush 288, 3) := by decide +kernel
theorem dX6_hook_27 : decode cX6_hook 27 = .ok (.invokevirtual 226, 3) := by decide +kernel
theorem dX6_hook_30 : decode cX6_hook 30 = .ok (.iconst 0, 1) := by decide +kernel
theorem dX6_hook_31 : decode cX6_hook 31 = .ok (.istore_n 3, 1) := by decide +kernel
theorem dX6_hook_32 : decode cX6_hook 32 = .ok (.iload_n 3, 1) := by decide +kernel
theorem dX6_hook_33 : decode cX6_hook 33 = .ok (.bipush 9, 2) := by decide +kernel
theorem dX6_hook_35 : decode cX6_hook 35 = .ok (.if_icmp .gt 38, 3) := by decide +kernel
theorem dX6_hook_38 : decode cX6_hook 38 = .ok (.aload_n 0, 1) := by decide +kernel
theorem dX6_hook_39 : decode cX6_hook 39 = .ok (.getfield 7, 3) := by decide +kernel
theorem dX6_hook_42 : decode cX6_hook 42 = .ok (.sipush 309, 3) := by decide +kernel
theorem dX6_hook_45 : decode cX6_hook 45 = .ok (.iconst 4, 1) := by decide +kernel
theorem dX6_hook_46 : decode cX6_hook 46 = .ok (.iload_n 1, 1) := by decide +kernel
theorem dX6_hook_47 : decode cX6_hook 47 = .ok (.imul, 1) := by decide +kernel
theorem dX6_hook_48 : decode cX6_hook 48 = .ok (.iadd, 1) := by decide +kernel
theorem dX6_hook_49 : decode cX6_hook 49 = .ok (.iconst 3, 1) := by decide +kernel
theorem dX6_hook_50 : decode cX6_hook 50 = .ok (.iadd, 1) := by decide +kernel
theorem dX6_hook_51 : decode cX6_hook 51 = .ok (.iload_n 3, 1) := by decide +kernel
theorem dX6_hook_52 : decode cX6_hook 52 = .ok (.iastore, 1) := by decide +kernel
theorem dX6_hook_53 : decode cX6_hook 53 = .ok (.aload_n 0, 1) := by decide +kernel
theorem dX6_hook_54 : decode cX6_hook 54 = .ok (.sipush 288, 3) := by decide +kernel
theorem dX6_hook_57 : decode cX6_hook 57 = .ok (.iload_n 1, 1) := by decide +kernel
theorem dX6_hook_58 : decode cX6_hook 58 = .ok (.invokevirtual 220, 3) := by decide +kernel
theorem dX6_hook_61 : decode cX6_hook 61 = .ok (.iload_n 2, 1) := by decide +kernel
theorem dX6_hook_62 : decode cX6_hook 62 = .ok (.if_icmp .lt 5, 3) := by decide +kernel
theorem dX6_hook_65 : decode cX6_hook 65 = .ok (.iload_n 3, 1) := by decide +kernel
theorem dX6_hook_66 : decode cX6_hook 66 = .ok (.ireturn, 1) := by decide +kernel
theorem dX6_hook_67 : decode cX6_hook 67 = .ok (.iinc 3 1, 3) := by decide +kernel
theorem dX6_hook_70 : decode cX6_hook 70 = .ok (.goto (-38), 3) := by decide +kernel
theorem dX6_hook_73 : decode cX6_hook 73 = .ok (.bipush (-4), 2) := by decide +kernel
theorem dX6_hook_75 : decode cX6_hook 75 = .ok (.ireturn, 1) := by decide +kernel
theorem dX6_fire_0 : decode cX6_fire 0 = .ok (.aload_n 0, 1) := by decide +kernel
theorem dX6_fire_1 : decode cX6_fire 1 = .ok (.iload_n 1, 1) := by decide +kernel
theorem dX6_fire_2 : decode cX6_fire 2 = .ok (.invokevirtual 179, 3) := by decide +kernel
theorem dX6_fire_5 : decode cX6_fire 5 = .ok (.ifCond .eq 13, 3) := by decide +kernel
theorem dX6_fire_8 : decode cX6_fire 8 = .ok (.iload_n 2, 1) := by decide +kernel
theorem dX6_fire_9 : decode cX6_fire 9 = .ok (.i2l, 1) := by decide +kernel
theorem dX6_fire_10 : decode cX6_fire 10 = .ok (.lconst 0, 1) := by decide +kernel
theorem dX6_fire_11 : decode cX6_fire 11 = .ok (.lconst 1, 1) := by decide +kernel
theorem dX6_fire_12 : decode cX6_fire 12 = .ok (.invokestatic 73, 3) := by decide +kernel
theorem dX6_fire_15 : decode cX6_fire 15 = .ok (.ifCond .ne 5, 3) := by decide +kernel
theorem dX6_fire_18 : decode cX6_fire 18 = .ok (.iconst (-1), 1) := by decide +kernel
theorem dX6_fire_19 : decode cX6_fire 19 = .ok (.ireturn, 1) := by decide +kernel
theorem dX6_fire_20 : decode cX6_fire 20 = .ok (.aload_n 0, 1) := by decide +kernel
theorem dX6_fire_21 : decode cX6_fire 21 = .ok (.iconst 0, 1) := by decide +kernel
theorem dX6_fire_22 : decode cX6_fire 22 = .ok (.iload_n 1, 1) := by decide +kernel
theorem dX6_fire_23 : decode cX6_fire 23 = .ok (.invokevirtual 220, 3) := by decide +kernel
theorem dX6_fire_26 : decode cX6_fire 26 = .ok (.istore_n 3, 1) := by decide +kernel
theorem dX6_fire_27 : decode cX6_fire 27 = .ok (.bipush (-4), 2) := by decide +kernel
theorem dX6_fire_29 : decode cX6_fire 29 = .ok (.istore 4, 2) := by decide +kernel
theorem dX6_fire_31 : decode cX6_fire 31 = .ok (.iconst 0, 1) := by decide +kernel
theorem dX6_fire_32 : decode cX6_fire 32 = .ok (.istore 5, 2) := by decide +kernel
theorem dX6_fire_34 : decode cX6_fire 34 = .ok (.iload 5, 2) := by decide +kernel
theorem dX6_fire_36 : decode cX6_fire 36 = .ok (.bipush 24, 2) := by decide +kernel
theorem dX6_fire_38 : decode cX6_fire 38 = .ok (.if_icmp .ge 89, 3) := by decide +kernel
theorem dX6_fire_41 : decode cX6_fire 41 = .ok (.aload_n 0, 1) := by decide +kernel
theorem dX6_fire_42 : decode cX6_fire 42 = .ok (.iconst 0, 1) := by decide +kernel
theorem dX6_fire_43 : decode cX6_fire 43 = .ok (.sipush 288, 3) := by decide +kernel
theorem dX6_fire_46 : decode cX6_fire 46 = .ok (.invokevirtual 226, 3) := by decide +kernel
theorem dX6_fire_49 : decode cX6_fire 49 = .ok (.iconst 1, 1) := by decide +kernel
theorem dX6_fire_50 : decode cX6_fire 50 = .ok (.istore 6, 2) := by decide +kernel
theorem dX6_fire_52 : decode cX6_fire 52 = .ok (.iload 6, 2) := by decide +kernel
theorem dX6_fire_54 : decode cX6_fire 54 = .ok (.iconst 4, 1) := by decide +kernel
theorem dX6_fire_55 : decode cX6_fire 55 = .ok (.if_icmp .gt 66, 3) := by decide +kernel
theorem dX6_fire_58 : decode cX6_fire 58 = .ok (.aload_n 0, 1) := by decide +kernel
theorem dX6_fire_59 : decode cX6_fire 59 = .ok (.getfield 7, 3) := by decide +kernel
theorem dX6_fire_62 : decode cX6_fire 62 = .ok (.sipush 335, 3) := by decide +kernel
theorem dX6_fire_65 : decode cX6_fire 65 = .ok (.iload 5, 2) := by decide +kernel
theorem dX6_fire_67 : decode cX6_fire 67 = .ok (.iadd, 1) := by decide +kernel
theorem dX6_fire_68 : decode cX6_fire 68 = .ok (.iload 6, 2) := by decide +kernel
theorem dX6_fire_70 : decode cX6_fire 70 = .ok (.iastore, 1) := by decide +kernel
theorem dX6_fire_71 : decode cX6_fire 71 = .ok (.aload_n 0, 1) := by decide +kernel
theorem dX6_fire_72 : decode cX6_fire 72 = .ok (.sipush 288, 3) := by decide +kernel
theorem dX6_fire_75 : decode cX6_fire 75 = .ok (.iload_n 1, 1) := by decide +kernel
theorem dX6_fire_76 : decode cX6_fire 76 = .ok (.invokevirtual 220, 3) := by decide +kernel
theorem dX6_fire_79 : decode cX6_fire 79 = .ok (.istore 7, 2) := by decide +kernel
theorem dX6_fire_81 : decode cX6_fire 81 = .ok (.iload 7, 2) := by decide +kernel
theorem dX6_fire_83 : decode cX6_fire 83 = .ok (.iload_n 3, 1) := by decide +kernel
theorem dX6_fire_84 : decode cX6_fire 84 = .ok (.if_icmp .le 14, 3) := by decide +kernel
theorem dX6_fire_87 : decode cX6_fire 87 = .ok (.bipush 10, 2) := by decide +kernel
theorem dX6_fire_89 : decode cX6_fire 89 = .ok (.iload 5, 2) := by decide +kernel
theorem dX6_fire_91 : decode cX6_fire 91 = .ok (.imul, 1) := by decide +kernel
theorem dX6_fire_92 : decode cX6_fire 92 = .ok (.iload 6, 2) := by decide +kernel
theorem dX6_fire_94 : decode cX6_fire 94 = .ok (.iadd, 1) := by decide +kernel
theorem dX6_fire_95 : decode cX6_fire 95 = .ok (.goto 5, 3) := by decide +kernel
theorem dX6_fire_98 : decode cX6_fire 98 = .ok (.iload 4, 2) := by decide +kernel
theorem dX6_fire_100 : decode cX6_fire 100 = .ok (.istore 4, 2) := by decide +kernel
theorem dX6_fire_102 : decode cX6_fire 102 = .ok (.iload 7, 2) := by decide +kernel
theorem dX6_fire_104 : decode cX6_fire 104 = .ok (.iload_n 3, 1) := by decide +kernel
theorem dX6_fire_105 : decode cX6_fire 105 = .ok (.if_icmp .le 8, 3) := by decide +kernel
theorem dX6_fire_108 : decode cX6_fire 108 = .ok (.iload 7, 2) := by decide +kernel
theorem dX6_fire_110 : decode cX6_fire 110 = .ok (.goto 4, 3) := by decide +kernel
theorem dX6_fire_113 : decode cX6_fire 113 = .ok (.iload_n 3, 1) := by decide +kernel
theorem dX6_fire_114 : decode cX6_fire 114 = .ok (.istore_n 3, 1) := by decide +kernel
theorem dX6_fire_115 : decode cX6_fire 115 = .ok (.iinc 6 1, 3) := by decide +kernel
theorem dX6_fire_118 : decode cX6_fire 118 = .ok (.goto (-66), 3) := by decide +kernel
theorem dX6_fire_121 : decode cX6_fire 121 = .ok (.iinc 5 1, 3) := by decide +kernel
theorem dX6_fire_124 : decode cX6_fire 124 = .ok (.goto (-90), 3) := by decide +kernel
theorem dX6_fire_127 : decode cX6_fire 127 = .ok (.iload 4, 2) := by decide +kernel
theorem dX6_fire_129 : decode cX6_fire 129 = .ok (.bipush (-4), 2) := by decide +kernel
theorem dX6_fire_131 : decode cX6_fire 131 = .ok (.if_icmp .eq 7, 3) := by decide +kernel
theorem dX6_fire_134 : decode cX6_fire 134 = .ok (.iload_n 2, 1) := by decide +kernel
theorem dX6_fire_135 : decode cX6_fire 135 = .ok (.ifCond .ne 8, 3) := by decide +kernel
theorem dX6_fire_138 : decode cX6_fire 138 = .ok (.iload 4, 2) := by decide +kernel
theorem dX6_fire_140 : decode cX6_fire 140 = .ok (.goto 4, 3) := by decide +kernel
theorem dX6_fire_143 : decode cX6_fire 143 = .ok (.iload_n 3, 1) := by decide +kernel
theorem dX6_fire_144 : decode cX6_fire 144 = .ok (.ireturn, 1) := by decide +kernel
theorem dX6_moon_0 : decode cX6_moon 0 = .ok (.iload_n 1, 1) := by decide +kernel
theorem dX6_moon_1 : decode cX6_moon 1 = .ok (.i2l, 1) := by decide +kernel
theorem dX6_moon_2 : decode cX6_moon 2 = .ok (.lconst 0, 1) := by decide +kernel
theorem dX6_moon_3 : decode cX6_moon 3 = .ok (.lconst 1, 1) := by decide +kernel
theorem dX6_moon_4 : decode cX6_moon 4 = .ok (.invokestatic 73, 3) := by decide +kernel
theorem dX6_moon_7 : decode cX6_moon 7 = .ok (.ifCond .ne 5, 3) := by decide +kernel
theorem dX6_moon_10 : decode cX6_moon 10 = .ok (.iconst (-1), 1) := by decide +kernel
theorem dX6_moon_11 : decode cX6_moon 11 = .ok (.ireturn, 1) := by decide +kernel
theorem dX6_moon_12 : decode cX6_moon 12 = .ok (.aload_n 0, 1) := by decide +kernel
theorem dX6_moon_13 : decode cX6_moon 13 = .ok (.iconst 0, 1) := by decide +kernel
theorem dX6_moon_14 : decode cX6_moon 14 = .ok (.sipush 288, 3) := by decide +kernel
theorem dX6_moon_17 : decode cX6_moon 17 = .ok (.invokevirtual 226, 3) := by decide +kernel
theorem dX6_moon_20 : decode cX6_moon 20 = .ok (.iconst (-1), 1) := by decide +kernel
theorem dX6_moon_21 : decode cX6_moon 21 = .ok (.istore_n 2, 1) := by decide +kernel
theorem dX6_moon_22 : decode cX6_moon 22 = .ok (.iconst 0, 1) := by decide +kernel
theorem dX6_moon_23 : decode cX6_moon 23 = .ok (.istore_n 3, 1) := by decide +kernel
theorem dX6_moon_24 : decode cX6_moon 24 = .ok (.iconst 0, 1) := by decide +kernel
theorem dX6_moon_25 : decode cX6_moon 25 = .ok (.istore 4, 2) := by decide +kernel
theorem dX6_moon_27 : decode cX6_moon 27 = .ok (.iload 4, 2) := by decide +kernel
theorem dX6_moon_29 : decode cX6_moon 29 = .ok (.iconst 5, 1) := by decide +kernel
theorem dX6_moon_30 : decode cX6_moon 30 = .ok (.if_icmp .gt 56, 3) := by decide +kernel
theorem dX6_moon_33 : decode cX6_moon 33 = .ok (.aload_n 0, 1) := by decide +kernel
theorem dX6_moon_34 : decode cX6_moon 34 = .ok (.getfield 7, 3) := by decide +kernel
theorem dX6_moon_37 : decode cX6_moon 37 = .ok (.sipush 359, 3) := by decide +kernel
theorem dX6_moon_40 : decode cX6_moon 40 = .ok (.iload 4, 2) := by decide +kernel
theorem dX6_moon_42 : decode cX6_moon 42 = .ok (.iastore, 1) := by decide +kernel
theorem dX6_moon_43 : decode cX6_moon 43 = .ok (.aload_n 0, 1) := by decide +kernel
theorem dX6_moon_44 : decode cX6_moon 44 = .ok (.sipush 288, 3) := by decide +kernel
theorem dX6_moon_47 : decode cX6_moon 47 = .ok (.bipush (-4), 2) := by decide +kernel
theorem dX6_moon_49 : decode cX6_moon 49 = .ok (.invokevirtual 220, 3) := by decide +kernel
theorem dX6_moon_52 : decode cX6_moon 52 = .ok (.istore 5, 2) := by decide +kernel
theorem dX6_moon_54 : decode cX6_moon 54 = .ok (.iload 5, 2) := by decide +kernel
theorem dX6_moon_56 : decode cX6_moon 56 = .ok (.iload_n 2, 1) := by decide +kernel
theorem dX6_moon_57 : decode cX6_moon 57 = .ok (.if_icmp .le 8, 3) := by decide +kernel
theorem dX6_moon_60 : decode cX6_moon 60 = .ok (.iload 4, 2) := by decide +kernel
theorem dX6_moon_62 : decode cX6_moon 62 = .ok (.goto 4, 3) := by decide +kernel
theorem dX6_moon_65 : decode cX6_moon 65 = .ok (.iload_n 3, 1) := by decide +kernel
theorem dX6_moon_66 : decode cX6_moon 66 = .ok (.istore_n 3, 1) := by decide +kernel
theorem dX6_moon_67 : decode cX6_moon 67 = .ok (.iload 5, 2) := by decide +kernel
theorem dX6_moon_69 : decode cX6_moon 69 = .ok (.iload_n 2, 1) := by decide +kernel
theorem dX6_moon_70 : decode cX6_moon 70 = .ok (.if_icmp .le 8, 3) := by decide +kernel
theorem dX6_moon_73 : decode cX6_moon 73 = .ok (.iload 5, 2) := by decide +kernel
theorem dX6_moon_75 : decode cX6_moon 75 = .ok (.goto 4, 3) := by decide +kernel
theorem dX6_moon_78 : decode cX6_moon 78 = .ok (.iload_n 2, 1) := by decide +kernel
theorem dX6_moon_79 : decode cX6_moon 79 = .ok (.istore_n 2, 1) := by decide +kernel
theorem dX6_moon_80 : decode cX6_moon 80 = .ok (.iinc 4 1, 3) := by decide +kernel
theorem dX6_moon_83 : decode cX6_moon 83 = .ok (.goto (-56), 3) := by decide +kernel
theorem dX6_moon_86 : decode cX6_moon 86 = .ok (.iload_n 1, 1) := by decide +kernel
theorem dX6_moon_87 : decode cX6_moon 87 = .ok (.ifCond .ne 7, 3) := by decide +kernel
theorem dX6_moon_90 : decode cX6_moon 90 = .ok (.iload_n 3, 1) := by decide +kernel
theorem dX6_moon_91 : decode cX6_moon 91 = .ok (.goto 4, 3) := by decide +kernel
theorem dX6_moon_94 : decode cX6_moon 94 = .ok (.iload_n 2, 1) := by decide +kernel
theorem dX6_moon_95 : decode cX6_moon 95 = .ok (.ireturn, 1) := by decide +kernel
theorem dX6_isRest_0 : decode cX6_isRest 0 = .ok (.iconst 1, 1) := by decide +kernel
theorem dX6_isRest_1 : decode cX6_isRest 1 = .ok (.istore_n 3, 1) := by decide +kernel
theorem dX6_isRest_2 : decode cX6_isRest 2 = .ok (.iconst 0, 1) := by decide +kernel
theorem dX6_isRest_3 : decode cX6_isRest 3 = .ok (.istore 4, 2) := by decide +kernel
theorem dX6_isRest_5 : decode cX6_isRest 5 = .ok (.iload 4, 2) := by decide +kernel
theorem dX6_isRest_7 : decode cX6_isRest 7 = .ok (.bipush 9, 2) := by decide +kernel
theorem dX6_isRest_9 : decode cX6_isRest 9 = .ok (.if_icmp .gt 71, 3) := by decide +kernel
theorem dX6_isRest_12 : decode cX6_isRest 12 = .ok (.iload_n 3, 1) := by decide +kernel
theorem dX6_isRest_13 : decode cX6_isRest 13 = .ok (.ifCond .eq 59, 3) := by decide +kernel
theorem dX6_isRest_16 : decode cX6_isRest 16 = .ok (.aload_n 0, 1) := by decide +kernel
theorem dX6_isRest_17 : decode cX6_isRest 17 = .ok (.getfield 46, 3) := by decide +kernel
theorem dX6_isRest_20 : decode cX6_isRest 20 = .ok (.bipush 10, 2) := by decide +kernel
theorem dX6_isRest_22 : decode cX6_isRest 22 = .ok (.iload 4, 2) := by decide +kernel
theorem dX6_isRest_24 : decode cX6_isRest 24 = .ok (.imul, 1) := by decide +kernel
theorem dX6_isRest_25 : decode cX6_isRest 25 = .ok (.iload_n 2, 1) := by decide +kernel
theorem dX6_isRest_26 : decode cX6_isRest 26 = .ok (.iadd, 1) := by decide +kernel
theorem dX6_isRest_27 : decode cX6_isRest 27 = .ok (.iaload, 1) := by decide +kernel
theorem dX6_isRest_28 : decode cX6_isRest 28 = .ok (.aload_n 0, 1) := by decide +kernel
theorem dX6_isRest_29 : decode cX6_isRest 29 = .ok (.getfield 46, 3) := by decide +kernel
theorem dX6_isRest_32 : decode cX6_isRest 32 = .ok (.bipush 10, 2) := by decide +kernel
theorem dX6_isRest_34 : decode cX6_isRest 34 = .ok (.iload_n 1, 1) := by decide +kernel
theorem dX6_isRest_35 : decode cX6_isRest 35 = .ok (.imul, 1) := by decide +kernel
theorem dX6_isRest_36 : decode cX6_isRest 36 = .ok (.iload_n 2, 1) := by decide +kernel
theorem dX6_isRest_37 : decode cX6_isRest 37 = .ok (.iadd, 1) := by decide +kernel
theorem dX6_isRest_38 : decode cX6_isRest 38 = .ok (.iaload, 1) := by decide +kernel
theorem dX6_isRest_39 : decode cX6_isRest 39 = .ok (.if_icmp .gt 33, 3) := by decide +kernel
theorem dX6_isRest_42 : decode cX6_isRest 42 = .ok (.aload_n 0, 1) := by decide +kernel
theorem dX6_isRest_43 : decode cX6_isRest 43 = .ok (.getfield 49, 3) := by decide +kernel
theorem dX6_isRest_46 : decode cX6_isRest 46 = .ok (.bipush 10, 2) := by decide +kernel
theorem dX6_isRest_48 : decode cX6_isRest 48 = .ok (.iload_n 1, 1) := by decide +kernel
theorem dX6_isRest_49 : decode cX6_isRest 49 = .ok (.imul, 1) := by decide +kernel
theorem dX6_isRest_50 : decode cX6_isRest 50 = .ok (.iload 4, 2) := by decide +kernel
theorem dX6_isRest_52 : decode cX6_isRest 52 = .ok (.iadd, 1) := by decide +kernel
theorem dX6_isRest_53 : decode cX6_isRest 53 = .ok (.iaload, 1) := by decide +kernel
theorem dX6_isRest_54 : decode cX6_isRest 54 = .ok (.aload_n 0, 1) := by decide +kernel
theorem dX6_isRest_55 : decode cX6_isRest 55 = .ok (.getfield 49, 3) := by decide +kernel
theorem dX6_isRest_58 : decode cX6_isRest 58 = .ok (.bipush 10, 2) := by decide +kernel
theorem dX6_isRest_60 : decode cX6_isRest 60 = .ok (.iload_n 1, 1) := by decide +kernel
theorem dX6_isRest_61 : decode cX6_isRest 61 = .ok (.imul, 1) := by decide +kernel
theorem dX6_isRest_62 : decode cX6_isRest 62 = .ok (.iload_n 2, 1) := by decide +kernel
theorem dX6_isRest_63 : decode cX6_isRest 63 = .ok (.iadd, 1) := by decide +kernel
theorem dX6_isRest_64 : decode cX6_isRest 64 = .ok (.iaload, 1) := by decide +kernel
theorem dX6_isRest_65 : decode cX6_isRest 65 = .ok (.if_icmp .gt 7, 3) := by decide +kernel
theorem dX6_isRest_68 : decode cX6_isRest 68 = .ok (.iconst 1, 1) := by decide +kernel
theorem dX6_isRest_69 : decode cX6_isRest 69 = .ok (.goto 4, 3) := by decide +kernel
theorem dX6_isRest_72 : decode cX6_isRest 72 = .ok (.iconst 0, 1) := by decide +kernel
theorem dX6_isRest_73 : decode cX6_isRest 73 = .ok (.istore_n 3, 1) := by decide +kernel
theorem dX6_isRest_74 : decode cX6_isRest 74 = .ok (.iinc 4 1, 3) := by decide +kernel
theorem dX6_isRest_77 : decode cX6_isRest 77 = .ok (.goto (-72), 3) := by decide +kernel
theorem dX6_isRest_80 : decode cX6_isRest 80 = .ok (.iload_n 3, 1) := by decide +kernel
theorem dX6_isRest_81 : decode cX6_isRest 81 = .ok (.ireturn, 1) := by decide +kernel
theorem dX6_rest_0 : decode cX6_rest 0 = .ok (.aload_n 0, 1) := by decide +kernel
theorem dX6_rest_1 : decode cX6_rest 1 = .ok (.iload_n 1, 1) := by decide +kernel
theorem dX6_rest_2 : decode cX6_rest 2 = .ok (.invokevirtual 179, 3) := by decide +kernel
theorem dX6_rest_5 : decode cX6_rest 5 = .ok (.ifCond .eq 26, 3) := by decide +kernel
theorem dX6_rest_8 : decode cX6_rest 8 = .ok (.aload_n 0, 1) := by decide +kernel
theorem dX6_rest_9 : decode cX6_rest 9 = .ok (.iload_n 2, 1) := by decide +kernel
theorem dX6_rest_10 : decode cX6_rest 10 = .ok (.invokevirtual 179, 3) := by decide +kernel
theorem dX6_rest_13 : decode cX6_rest 13 = .ok (.ifCond .eq 18, 3) := by decide +kernel
theorem dX6_rest_16 : decode cX6_rest 16 = .ok (.iload_n 1, 1) := by decide +kernel
theorem dX6_rest_17 : decode cX6_rest 17 = .ok (.iload_n 2, 1) := by decide +kernel
theorem dX6_rest_18 : decode cX6_rest 18 = .ok (.if_icmp .eq 13, 3) := by decide +kernel
theorem dX6_rest_21 : decode cX6_rest 21 = .ok (.iload_n 3, 1) := by decide +kernel
theorem dX6_rest_22 : decode cX6_rest 22 = .ok (.i2l, 1) := by decide +kernel
theorem dX6_rest_23 : decode cX6_rest 23 = .ok (.lconst 0, 1) := by decide +kernel
theorem dX6_rest_24 : decode cX6_rest 24 = .ok (.lconst 1, 1) := by decide +kernel
theorem dX6_rest_25 : decode cX6_rest 25 = .ok (.invokestatic 73, 3) := by decide +kernel
theorem dX6_rest_28 : decode cX6_rest 28 = .ok (.ifCond .ne 5, 3) := by decide +kernel
theorem dX6_rest_31 : decode cX6_rest 31 = .ok (.iconst (-1), 1) := by decide +kernel
theorem dX6_rest_32 : decode cX6_rest 32 = .ok (.ireturn, 1) := by decide +kernel
theorem dX6_rest_33 : decode cX6_rest 33 = .ok (.aload_n 0, 1) := by decide +kernel
theorem dX6_rest_34 : decode cX6_rest 34 = .ok (.iconst 0, 1) := by decide +kernel
theorem dX6_rest_35 : decode cX6_rest 35 = .ok (.sipush 288, 3) := by decide +kernel
theorem dX6_rest_38 : decode cX6_rest 38 = .ok (.invokevirtual 226, 3) := by decide +kernel
theorem dX6_rest_41 : decode cX6_rest 41 = .ok (.iconst 0, 1) := by decide +kernel
theorem dX6_rest_42 : decode cX6_rest 42 = .ok (.istore 4, 2) := by decide +kernel
theorem dX6_rest_44 : decode cX6_rest 44 = .ok (.iload 4, 2) := by decide +kernel
theorem dX6_rest_46 : decode cX6_rest 46 = .ok (.bipush 100, 2) := by decide +kernel
theorem dX6_rest_48 : decode cX6_rest 48 = .ok (.if_icmp .ge 73, 3) := by decide +kernel
theorem dX6_rest_51 : decode cX6_rest 51 = .ok (.aload_n 0, 1) := by decide +kernel
theorem dX6_rest_52 : decode cX6_rest 52 = .ok (.getfield 7, 3) := by decide +kernel
theorem dX6_rest_55 : decode cX6_rest 55 = .ok (.sipush 309, 3) := by decide +kernel
theorem dX6_rest_58 : decode cX6_rest 58 = .ok (.iconst 4, 1) := by decide +kernel
theorem dX6_rest_59 : decode cX6_rest 59 = .ok (.iload_n 1, 1) := by decide +kernel
theorem dX6_rest_60 : decode cX6_rest 60 = .ok (.imul, 1) := by decide +kernel
theorem dX6_rest_61 : decode cX6_rest 61 = .ok (.iadd, 1) := by decide +kernel
theorem dX6_rest_62 : decode cX6_rest 62 = .ok (.iload 4, 2) := by decide +kernel
theorem dX6_rest_64 : decode cX6_rest 64 = .ok (.bipush 10, 2) := by decide +kernel
theorem dX6_rest_66 : decode cX6_rest 66 = .ok (.idiv, 1) := by decide +kernel
theorem dX6_rest_67 : decode cX6_rest 67 = .ok (.iastore, 1) := by decide +kernel
theorem dX6_rest_68 : decode cX6_rest 68 = .ok (.aload_n 0, 1) := by decide +kernel
theorem dX6_rest_69 : decode cX6_rest 69 = .ok (.getfield 7, 3) := by decide +kernel
theorem dX6_rest_72 : decode cX6_rest 72 = .ok (.sipush 309, 3) := by decide +kernel
theorem dX6_rest_75 : decode cX6_rest 75 = .ok (.iconst 4, 1) := by decide +kernel
theorem dX6_rest_76 : decode cX6_rest 76 = .ok (.iload_n 2, 1) := by decide +kernel
theorem dX6_rest_77 : decode cX6_rest 77 = .ok (.imul, 1) := by decide +kernel
theorem dX6_rest_78 : decode cX6_rest 78 = .ok (.iadd, 1) := by decide +kernel
theorem dX6_rest_79 : decode cX6_rest 79 = .ok (.iload 4, 2) := by decide +kernel
theorem dX6_rest_81 : decode cX6_rest 81 = .ok (.bipush 10, 2) := by decide +kernel
theorem dX6_rest_83 : decode cX6_rest 83 = .ok (.irem, 1) := by decide +kernel
theorem dX6_rest_84 : decode cX6_rest 84 = .ok (.iastore, 1) := by decide +kernel
theorem dX6_rest_85 : decode cX6_rest 85 = .ok (.aload_n 0, 1) := by decide +kernel
theorem dX6_rest_86 : decode cX6_rest 86 = .ok (.getfield 46, 3) := by decide +kernel
theorem dX6_rest_89 : decode cX6_rest 89 = .ok (.iload 4, 2) := by decide +kernel
theorem dX6_rest_91 : decode cX6_rest 91 = .ok (.aload_n 0, 1) := by decide +kernel
theorem dX6_rest_92 : decode cX6_rest 92 = .ok (.sipush 288, 3) := by decide +kernel
theorem dX6_rest_95 : decode cX6_rest 95 = .ok (.iload_n 1, 1) := by decide +kernel
theorem dX6_rest_96 : decode cX6_rest 96 = .ok (.invokevirtual 220, 3) := by decide +kernel
theorem dX6_rest_99 : decode cX6_rest 99 = .ok (.iastore, 1) := by decide +kernel
theorem dX6_rest_100 : decode cX6_rest 100 = .ok (.aload_n 0, 1) := by decide +kernel
theorem dX6_rest_101 : decode cX6_rest 101 = .ok (.getfield 49, 3) := by decide +kernel
theorem dX6_rest_104 : decode cX6_rest 104 = .ok (.iload 4, 2) := by decide +kernel
theorem dX6_rest_106 : decode cX6_rest 106 = .ok (.aload_n 0, 1) := by decide +kernel
theorem dX6_rest_107 : decode cX6_rest 107 = .ok (.sipush 288, 3) := by decide +kernel
theorem dX6_rest_110 : decode cX6_rest 110 = .ok (.iload_n 2, 1) := by decide +kernel
theorem dX6_rest_111 : decode cX6_rest 111 = .ok (.invokevirtual 212, 3) := by decide +kernel
theorem dX6_rest_114 : decode cX6_rest 114 = .ok (.iastore, 1) := by decide +kernel
theorem dX6_rest_115 : decode cX6_rest 115 = .ok (.iinc 4 1, 3) := by decide +kernel
theorem dX6_rest_118 : decode cX6_rest 118 = .ok (.goto (-74), 3) := by decide +kernel
theorem dX6_rest_121 : decode cX6_rest 121 = .ok (.iconst 0, 1) := by decide +kernel
theorem dX6_rest_122 : decode cX6_rest 122 = .ok (.istore 4, 2) := by decide +kernel
theorem dX6_rest_124 : decode cX6_rest 124 = .ok (.bipush (-4), 2) := by decide +kernel
theorem dX6_rest_126 : decode cX6_rest 126 = .ok (.istore 5, 2) := by decide +kernel
theorem dX6_rest_128 : decode cX6_rest 128 = .ok (.iconst 0, 1) := by decide +kernel
theorem dX6_rest_129 : decode cX6_rest 129 = .ok (.istore 6, 2) := by decide +kernel
theorem dX6_rest_131 : decode cX6_rest 131 = .ok (.iload 6, 2) := by decide +kernel
theorem dX6_rest_133 : decode cX6_rest 133 = .ok (.bipush 100, 2) := by decide +kernel
theorem dX6_rest_135 : decode cX6_rest 135 = .ok (.if_icmp .ge 59, 3) := by decide +kernel
theorem dX6_rest_138 : decode cX6_rest 138 = .ok (.aload_n 0, 1) := by decide +kernel
theorem dX6_rest_139 : decode cX6_rest 139 = .ok (.iload 6, 2) := by decide +kernel
theorem dX6_rest_141 : decode cX6_rest 141 = .ok (.bipush 10, 2) := by decide +kernel
theorem dX6_rest_143 : decode cX6_rest 143 = .ok (.idiv, 1) := by decide +kernel
theorem dX6_rest_144 : decode cX6_rest 144 = .ok (.iload 6, 2) := by decide +kernel
theorem dX6_rest_146 : decode cX6_rest 146 = .ok (.bipush 10, 2) := by decide +kernel
theorem dX6_rest_148 : decode cX6_rest 148 = .ok (.irem, 1) := by decide +kernel
theorem dX6_rest_149 : decode cX6_rest 149 = .ok (.invokevirtual 235, 3) := by decide +kernel
theorem dX6_rest_152 : decode cX6_rest 152 = .ok (.istore 7, 2) := by decide +kernel
theorem dX6_rest_154 : decode cX6_rest 154 = .ok (.iload 7, 2) := by decide +kernel
theorem dX6_rest_156 : decode cX6_rest 156 = .ok (.ifCond .eq 13, 3) := by decide +kernel
theorem dX6_rest_159 : decode cX6_rest 159 = .ok (.iload 4, 2) := by decide +kernel
theorem dX6_rest_161 : decode cX6_rest 161 = .ok (.ifCond .ne 8, 3) := by decide +kernel
theorem dX6_rest_164 : decode cX6_rest 164 = .ok (.iload 6, 2) := by decide +kernel
theorem dX6_rest_166 : decode cX6_rest 166 = .ok (.goto 5, 3) := by decide +kernel
theorem dX6_rest_169 : decode cX6_rest 169 = .ok (.iload 5, 2) := by decide +kernel
theorem dX6_rest_171 : decode cX6_rest 171 = .ok (.istore 5, 2) := by decide +kernel
theorem dX6_rest_173 : decode cX6_rest 173 = .ok (.iload 4, 2) := by decide +kernel
theorem dX6_rest_175 : decode cX6_rest 175 = .ok (.iload 7, 2) := by decide +kernel
theorem dX6_rest_177 : decode cX6_rest 177 = .ok (.ifCond .eq 7, 3) := by decide +kernel
theorem dX6_rest_180 : decode cX6_rest 180 = .ok (.iconst 1, 1) := by decide +kernel
theorem dX6_rest_181 : decode cX6_rest 181 = .ok (.goto 4, 3) := by decide +kernel
theorem dX6_rest_184 : decode cX6_rest 184 = .ok (.iconst 0, 1) := by decide +kernel
theorem dX6_rest_185 : decode cX6_rest 185 = .ok (.iadd, 1) := by decide +kernel
theorem dX6_rest_186 : decode cX6_rest 186 = .ok (.istore 4, 2) := by decide +kernel
theorem dX6_rest_188 : decode cX6_rest 188 = .ok (.iinc 6 1, 3) := by decide +kernel
theorem dX6_rest_191 : decode cX6_rest 191 = .ok (.goto (-60), 3) := by decide +kernel
theorem dX6_rest_194 : decode cX6_rest 194 = .ok (.iload_n 3, 1) := by decide +kernel
theorem dX6_rest_195 : decode cX6_rest 195 = .ok (.ifCond .ne 8, 3) := by decide +kernel
theorem dX6_rest_198 : decode cX6_rest 198 = .ok (.iload 4, 2) := by decide +kernel
theorem dX6_rest_200 : decode cX6_rest 200 = .ok (.goto 5, 3) := by decide +kernel
theorem dX6_rest_203 : decode cX6_rest 203 = .ok (.iload 5, 2) := by decide +kernel
theorem dX6_rest_205 : decode cX6_rest 205 = .ok (.ireturn, 1) := by decide +kernel
theorem dX6_lowest_0 : decode cX6_lowest 0 = .ok (.lload_n 0, 1) := by decide +kernel
theorem dX6_lowest_1 : decode cX6_lowest 1 = .ok (.lstore 5, 2) := by decide +kernel
theorem dX6_lowest_3 : decode cX6_lowest 3 = .ok (.lload_n 2, 1) := by decide +kernel
theorem dX6_lowest_4 : decode cX6_lowest 4 = .ok (.lstore 7, 2) := by decide +kernel
theorem dX6_lowest_6 : decode cX6_lowest 6 = .ok (.lload 7, 2) := by decide +kernel
theorem dX6_lowest_8 : decode cX6_lowest 8 = .ok (.lconst 0, 1) := by decide +kernel
theorem dX6_lowest_9 : decode cX6_lowest 9 = .ok (.lcmp, 1) := by decide +kernel
theorem dX6_lowest_10 : decode cX6_lowest 10 = .ok (.ifCond .eq 21, 3) := by decide +kernel
theorem dX6_lowest_13 : decode cX6_lowest 13 = .ok (.lload 5, 2) := by decide +kernel
theorem dX6_lowest_15 : decode cX6_lowest 15 = .ok (.lload 7, 2) := by decide +kernel
theorem dX6_lowest_17 : decode cX6_lowest 17 = .ok (.lrem, 1) := by decide +kernel
theorem dX6_lowest_18 : decode cX6_lowest 18 = .ok (.lstore 9, 2) := by decide +kernel
theorem dX6_lowest_20 : decode cX6_lowest 20 = .ok (.lload 7, 2) := by decide +kernel
theorem dX6_lowest_22 : decode cX6_lowest 22 = .ok (.lstore 5, 2) := by decide +kernel
theorem dX6_lowest_24 : decode cX6_lowest 24 = .ok (.lload 9, 2) := by decide +kernel
theorem dX6_lowest_26 : decode cX6_lowest 26 = .ok (.lstore 7, 2) := by decide +kernel
theorem dX6_lowest_28 : decode cX6_lowest 28 = .ok (.goto (-22), 3) := by decide +kernel
theorem dX6_lowest_31 : decode cX6_lowest 31 = .ok (.iload 4, 2) := by decide +kernel
theorem dX6_lowest_33 : decode cX6_lowest 33 = .ok (.ifCond .ne 7, 3) := by decide +kernel
theorem dX6_lowest_36 : decode cX6_lowest 36 = .ok (.lload_n 0, 1) := by decide +kernel
theorem dX6_lowest_37 : decode cX6_lowest 37 = .ok (.goto 4, 3) := by decide +kernel
theorem dX6_lowest_40 : decode cX6_lowest 40 = .ok (.lload_n 2, 1) := by decide +kernel
theorem dX6_lowest_41 : decode cX6_lowest 41 = .ok (.lload 5, 2) := by decide +kernel
theorem dX6_lowest_43 : decode cX6_lowest 43 = .ok (.ldiv, 1) := by decide +kernel
theorem dX6_lowest_44 : decode cX6_lowest 44 = .ok (.lreturn, 1) := by decide +kernel
theorem dX6_byDrops_0 : decode cX6_byDrops 0 = .ok (.aload_n 0, 1) := by decide +kernel
theorem dX6_byDrops_1 : decode cX6_byDrops 1 = .ok (.invokevirtual 167, 3) := by decide +kernel
theorem dX6_byDrops_4 : decode cX6_byDrops 4 = .ok (.istore 5, 2) := by decide +kernel
theorem dX6_byDrops_6 : decode cX6_byDrops 6 = .ok (.lconst 0, 1) := by decide +kernel
theorem dX6_byDrops_7 : decode cX6_byDrops 7 = .ok (.lstore 6, 2) := by decide +kernel
theorem dX6_byDrops_9 : decode cX6_byDrops 9 = .ok (.lconst 1, 1) := by decide +kernel
theorem dX6_byDrops_10 : decode cX6_byDrops 10 = .ok (.lstore 8, 2) := by decide +kernel
theorem dX6_byDrops_12 : decode cX6_byDrops 12 = .ok (.iconst 0, 1) := by decide +kernel
theorem dX6_byDrops_13 : decode cX6_byDrops 13 = .ok (.istore 10, 2) := by decide +kernel
theorem dX6_byDrops_15 : decode cX6_byDrops 15 = .ok (.iload 10, 2) := by decide +kernel
theorem dX6_byDrops_17 : decode cX6_byDrops 17 = .ok (.iload 5, 2) := by decide +kernel
theorem dX6_byDrops_19 : decode cX6_byDrops 19 = .ok (.invokestatic 170, 3) := by decide +kernel
theorem dX6_byDrops_22 : decode cX6_byDrops 22 = .ok (.if_icmp .ge 17, 3) := by decide +kernel
theorem dX6_byDrops_25 : decode cX6_byDrops 25 = .ok (.lload 8, 2) := by decide +kernel
theorem dX6_byDrops_27 : decode cX6_byDrops 27 = .ok (.ldc2_w 238, 3) := by decide +kernel
theorem dX6_byDrops_30 : decode cX6_byDrops 30 = .ok (.lmul, 1) := by decide +kernel
theorem dX6_byDrops_31 : decode cX6_byDrops 31 = .ok (.lstore 8, 2) := by decide +kernel
theorem dX6_byDrops_33 : decode cX6_byDrops 33 = .ok (.iinc 10 1, 3) := by decide +kernel
theorem dX6_byDrops_36 : decode cX6_byDrops 36 = .ok (.goto (-21), 3) := by decide +kernel
theorem dX6_byDrops_39 : decode cX6_byDrops 39 = .ok (.iconst 0, 1) := by decide +kernel
theorem dX6_byDrops_40 : decode cX6_byDrops 40 = .ok (.istore 10, 2) := by decide +kernel
theorem dX6_byDrops_42 : decode cX6_byDrops 42 = .ok (.iload 10, 2) := by decide +kernel
theorem dX6_byDrops_44 : decode cX6_byDrops 44 = .ok (.iconst 1, 1) := by decide +kernel
theorem dX6_byDrops_45 : decode cX6_byDrops 45 = .ok (.iload 5, 2) := by decide +kernel
theorem dX6_byDrops_47 : decode cX6_byDrops 47 = .ok (.invokestatic 170, 3) := by decide +kernel
theorem dX6_byDrops_50 : decode cX6_byDrops 50 = .ok (.ishl, 1) := by decide +kernel
theorem dX6_byDrops_51 : decode cX6_byDrops 51 = .ok (.if_icmp .ge 163, 3) := by decide +kernel
theorem dX6_byDrops_54 : decode cX6_byDrops 54 = .ok (.lconst 1, 1) := by decide +kernel
theorem dX6_byDrops_55 : decode cX6_byDrops 55 = .ok (.lstore 11, 2) := by decide +kernel
theorem dX6_byDrops_57 : decode cX6_byDrops 57 = .ok (.iconst 0, 1) := by decide +kernel
theorem dX6_byDrops_58 : decode cX6_byDrops 58 = .ok (.istore 13, 2) := by decide +kernel
theorem dX6_byDrops_60 : decode cX6_byDrops 60 = .ok (.aload_n 0, 1) := by decide +kernel
theorem dX6_byDrops_61 : decode cX6_byDrops 61 = .ok (.iconst 0, 1) := by decide +kernel
theorem dX6_byDrops_62 : decode cX6_byDrops 62 = .ok (.putfield 198, 3) := by decide +kernel
theorem dX6_byDrops_65 : decode cX6_byDrops 65 = .ok (.iconst 0, 1) := by decide +kernel
theorem dX6_byDrops_66 : decode cX6_byDrops 66 = .ok (.istore 14, 2) := by decide +kernel
theorem dX6_byDrops_68 : decode cX6_byDrops 68 = .ok (.iload 14, 2) := by decide +kernel
theorem dX6_byDrops_70 : decode cX6_byDrops 70 = .ok (.bipush 24, 2) := by decide +kernel
theorem dX6_byDrops_72 : decode cX6_byDrops 72 = .ok (.if_icmp .ge 83, 3) := by decide +kernel
theorem dX6_byDrops_75 : decode cX6_byDrops 75 = .ok (.iload 5, 2) := by decide +kernel
theorem dX6_byDrops_77 : decode cX6_byDrops 77 = .ok (.iload 14, 2) := by decide +kernel
theorem dX6_byDrops_79 : decode cX6_byDrops 79 = .ok (.ishr, 1) := by decide +kernel
theorem dX6_byDrops_80 : decode cX6_byDrops 80 = .ok (.iconst 1, 1) := by decide +kernel
theorem dX6_byDrops_81 : decode cX6_byDrops 81 = .ok (.iand, 1) := by decide +kernel
theorem dX6_byDrops_82 : decode cX6_byDrops 82 = .ok (.iconst 1, 1) := by decide +kernel
theorem dX6_byDrops_83 : decode cX6_byDrops 83 = .ok (.if_icmp .ne 66, 3) := by decide +kernel
theorem dX6_byDrops_86 : decode cX6_byDrops 86 = .ok (.iload 10, 2) := by decide +kernel
theorem dX6_byDrops_88 : decode cX6_byDrops 88 = .ok (.iload 13, 2) := by decide +kernel
theorem dX6_byDrops_90 : decode cX6_byDrops 90 = .ok (.ishr, 1) := by decide +kernel
theorem dX6_byDrops_91 : decode cX6_byDrops 91 = .ok (.iconst 1, 1) := by decide +kernel
theorem dX6_byDrops_92 : decode cX6_byDrops 92 = .ok (.iand, 1) := by decide +kernel
theorem dX6_byDrops_93 : decode cX6_byDrops 93 = .ok (.iconst 1, 1) := by decide +kernel
theorem dX6_byDrops_94 : decode cX6_byDrops 94 = .ok (.if_icmp .ne 7, 3) := by decide +kernel
theorem dX6_byDrops_97 : decode cX6_byDrops 97 = .ok (.iconst 1, 1) := by decide +kernel
theorem dX6_byDrops_98 : decode cX6_byDrops 98 = .ok (.goto 4, 3) := by decide +kernel
theorem dX6_byDrops_101 : decode cX6_byDrops 101 = .ok (.iconst 0, 1) := by decide +kernel
theorem dX6_byDrops_102 : decode cX6_byDrops 102 = .ok (.istore 15, 2) := by decide +kernel
theorem dX6_byDrops_104 : decode cX6_byDrops 104 = .ok (.lload 11, 2) := by decide +kernel
theorem dX6_byDrops_106 : decode cX6_byDrops 106 = .ok (.iload 15, 2) := by decide +kernel
theorem dX6_byDrops_108 : decode cX6_byDrops 108 = .ok (.ifCond .eq 8, 3) := by decide +kernel
theorem dX6_byDrops_111 : decode cX6_byDrops 111 = .ok (.iload_n 1, 1) := by decide +kernel
theorem dX6_byDrops_112 : decode cX6_byDrops 112 = .ok (.i2l, 1) := by decide +kernel
theorem dX6_byDrops_113 : decode cX6_byDrops 113 = .ok (.goto 8, 3) := by decide +kernel
theorem dX6_byDrops_116 : decode cX6_byDrops 116 = .ok (.bipush 10, 2) := by decide +kernel
theorem dX6_byDrops_118 : decode cX6_byDrops 118 = .ok (.iload_n 1, 1) := by decide +kernel
theorem dX6_byDrops_119 : decode cX6_byDrops 119 = .ok (.isub, 1) := by decide +kernel
theorem dX6_byDrops_120 : decode cX6_byDrops 120 = .ok (.i2l, 1) := by decide +kernel
theorem dX6_byDrops_121 : decode cX6_byDrops 121 = .ok (.lmul, 1) := by decide +kernel
theorem dX6_byDrops_122 : decode cX6_byDrops 122 = .ok (.lstore 11, 2) := by decide +kernel
theorem dX6_byDrops_124 : decode cX6_byDrops 124 = .ok (.aload_n 0, 1) := by decide +kernel
theorem dX6_byDrops_125 : decode cX6_byDrops 125 = .ok (.dup, 1) := by decide +kernel
theorem dX6_byDrops_126 : decode cX6_byDrops 126 = .ok (.getfield 198, 3) := by decide +kernel
theorem dX6_byDrops_129 : decode cX6_byDrops 129 = .ok (.iload 15, 2) := by decide +kernel
theorem dX6_byDrops_131 : decode cX6_byDrops 131 = .ok (.ifCond .eq 10, 3) := by decide +kernel
theorem dX6_byDrops_134 : decode cX6_byDrops 134 = .ok (.iconst 1, 1) := by decide +kernel
theorem dX6_byDrops_135 : decode cX6_byDrops 135 = .ok (.iload 14, 2) := by decide +kernel
theorem dX6_byDrops_137 : decode cX6_byDrops 137 = .ok (.ishl, 1) := by decide +kernel
theorem dX6_byDrops_138 : decode cX6_byDrops 138 = .ok (.goto 4, 3) := by decide +kernel
theorem dX6_byDrops_141 : decode cX6_byDrops 141 = .ok (.iconst 0, 1) := by decide +kernel
theorem dX6_byDrops_142 : decode cX6_byDrops 142 = .ok (.ior, 1) := by decide +kernel
theorem dX6_byDrops_143 : decode cX6_byDrops 143 = .ok (.putfield 198, 3) := by decide +kernel
theorem dX6_byDrops_146 : decode cX6_byDrops 146 = .ok (.iinc 13 1, 3) := by decide +kernel
theorem dX6_byDrops_149 : decode cX6_byDrops 149 = .ok (.iinc 14 1, 3) := by decide +kernel
theorem dX6_byDrops_152 : decode cX6_byDrops 152 = .ok (.goto (-84), 3) := by decide +kernel
theorem dX6_byDrops_155 : decode cX6_byDrops 155 = .ok (.aload_n 0, 1) := by decide +kernel
theorem dX6_byDrops_156 : decode cX6_byDrops 156 = .ok (.iconst 0, 1) := by decide +kernel
theorem dX6_byDrops_157 : decode cX6_byDrops 157 = .ok (.iload_n 3, 1) := by decide +kernel
theorem dX6_byDrops_158 : decode cX6_byDrops 158 = .ok (.invokevirtual 220, 3) := by decide +kernel
theorem dX6_byDrops_161 : decode cX6_byDrops 161 = .ok (.istore 14, 2) := by decide +kernel
theorem dX6_byDrops_163 : decode cX6_byDrops 163 = .ok (.lload 6, 2) := by decide +kernel
theorem dX6_byDrops_165 : decode cX6_byDrops 165 = .ok (.lload 11, 2) := by decide +kernel
theorem dX6_byDrops_167 : decode cX6_byDrops 167 = .ok (.iload_n 2, 1) := by decide +kernel
theorem dX6_byDrops_168 : decode cX6_byDrops 168 = .ok (.bipush (-4), 2) := by decide +kernel
theorem dX6_byDrops_170 : decode cX6_byDrops 170 = .ok (.if_icmp .ne 8, 3) := by decide +kernel
theorem dX6_byDrops_173 : decode cX6_byDrops 173 = .ok (.iload 14, 2) := by decide +kernel
theorem dX6_byDrops_175 : decode cX6_byDrops 175 = .ok (.goto 28, 3) := by decide +kernel
theorem dX6_byDrops_178 : decode cX6_byDrops 178 = .ok (.aload_n 0, 1) := by decide +kernel
theorem dX6_byDrops_179 : decode cX6_byDrops 179 = .ok (.getfield 34, 3) := by decide +kernel
theorem dX6_byDrops_182 : decode cX6_byDrops 182 = .ok (.iload_n 2, 1) := by decide +kernel
theorem dX6_byDrops_183 : decode cX6_byDrops 183 = .ok (.iaload, 1) := by decide +kernel
theorem dX6_byDrops_184 : decode cX6_byDrops 184 = .ok (.iconst 1, 1) := by decide +kernel
theorem dX6_byDrops_185 : decode cX6_byDrops 185 = .ok (.if_icmp .ne 17, 3) := by decide +kernel
theorem dX6_byDrops_188 : decode cX6_byDrops 188 = .ok (.aload_n 0, 1) := by decide +kernel
theorem dX6_byDrops_189 : decode cX6_byDrops 189 = .ok (.getfield 40, 3) := by decide +kernel
theorem dX6_byDrops_192 : decode cX6_byDrops 192 = .ok (.iload_n 2, 1) := by decide +kernel
theorem dX6_byDrops_193 : decode cX6_byDrops 193 = .ok (.iaload, 1) := by decide +kernel
theorem dX6_byDrops_194 : decode cX6_byDrops 194 = .ok (.iload_n 3, 1) := by decide +kernel
theorem dX6_byDrops_195 : decode cX6_byDrops 195 = .ok (.if_icmp .ne 7, 3) := by decide +kernel
theorem dX6_byDrops_198 : decode cX6_byDrops 198 = .ok (.iconst 1, 1) := by decide +kernel
theorem dX6_byDrops_199 : decode cX6_byDrops 199 = .ok (.goto 4, 3) := by decide +kernel
theorem dX6_byDrops_202 : decode cX6_byDrops 202 = .ok (.iconst 0, 1) := by decide +kernel
theorem dX6_byDrops_203 : decode cX6_byDrops 203 = .ok (.i2l, 1) := by decide +kernel
theorem dX6_byDrops_204 : decode cX6_byDrops 204 = .ok (.lmul, 1) := by decide +kernel
theorem dX6_byDrops_205 : decode cX6_byDrops 205 = .ok (.ladd, 1) := by decide +kernel
theorem dX6_byDrops_206 : decode cX6_byDrops 206 = .ok (.lstore 6, 2) := by decide +kernel
theorem dX6_byDrops_208 : decode cX6_byDrops 208 = .ok (.iinc 10 1, 3) := by decide +kernel
theorem dX6_byDrops_211 : decode cX6_byDrops 211 = .ok (.goto (-169), 3) := by decide +kernel
theorem dX6_byDrops_214 : decode cX6_byDrops 214 = .ok (.aload_n 0, 1) := by decide +kernel
theorem dX6_byDrops_215 : decode cX6_byDrops 215 = .ok (.iconst 0, 1) := by decide +kernel
theorem dX6_byDrops_216 : decode cX6_byDrops 216 = .ok (.putfield 198, 3) := by decide +kernel
theorem dX6_byDrops_219 : decode cX6_byDrops 219 = .ok (.lload 6, 2) := by decide +kernel
theorem dX6_byDrops_221 : decode cX6_byDrops 221 = .ok (.lload 8, 2) := by decide +kernel
theorem dX6_byDrops_223 : decode cX6_byDrops 223 = .ok (.iload 4, 2) := by decide +kernel
theorem dX6_byDrops_225 : decode cX6_byDrops 225 = .ok (.invokestatic 240, 3) := by decide +kernel
theorem dX6_byDrops_228 : decode cX6_byDrops 228 = .ok (.lreturn, 1) := by decide +kernel
theorem dX6_luck_0 : decode cX6_luck 0 = .ok (.iload_n 1, 1) := by decide +kernel
theorem dX6_luck_1 : decode cX6_luck 1 = .ok (.i2l, 1) := by decide +kernel
theorem dX6_luck_2 : decode cX6_luck 2 = .ok (.lconst 0, 1) := by decide +kernel
theorem dX6_luck_3 : decode cX6_luck 3 = .ok (.ldc2_w 238, 3) := by decide +kernel
theorem dX6_luck_6 : decode cX6_luck 6 = .ok (.invokestatic 73, 3) := by decide +kernel
theorem dX6_luck_9 : decode cX6_luck 9 = .ok (.ifCond .eq 30, 3) := by decide +kernel
theorem dX6_luck_12 : decode cX6_luck 12 = .ok (.aload_n 0, 1) := by decide +kernel
theorem dX6_luck_13 : decode cX6_luck 13 = .ok (.iload_n 2, 1) := by decide +kernel
theorem dX6_luck_14 : decode cX6_luck 14 = .ok (.invokevirtual 173, 3) := by decide +kernel
theorem dX6_luck_17 : decode cX6_luck 17 = .ok (.ifCond .eq 22, 3) := by decide +kernel
theorem dX6_luck_20 : decode cX6_luck 20 = .ok (.aload_n 0, 1) := by decide +kernel
theorem dX6_luck_21 : decode cX6_luck 21 = .ok (.iload_n 3, 1) := by decide +kernel
theorem dX6_luck_22 : decode cX6_luck 22 = .ok (.invokevirtual 179, 3) := by decide +kernel
theorem dX6_luck_25 : decode cX6_luck 25 = .ok (.ifCond .eq 14, 3) := by decide +kernel
theorem dX6_luck_28 : decode cX6_luck 28 = .ok (.iload 4, 2) := by decide +kernel
theorem dX6_luck_30 : decode cX6_luck 30 = .ok (.i2l, 1) := by decide +kernel
theorem dX6_luck_31 : decode cX6_luck 31 = .ok (.lconst 0, 1) := by decide +kernel
theorem dX6_luck_32 : decode cX6_luck 32 = .ok (.lconst 1, 1) := by decide +kernel
theorem dX6_luck_33 : decode cX6_luck 33 = .ok (.invokestatic 73, 3) := by decide +kernel
theorem dX6_luck_36 : decode cX6_luck 36 = .ok (.ifCond .ne 7, 3) := by decide +kernel
theorem dX6_luck_39 : decode cX6_luck 39 = .ok (.ldc2_w 244, 3) := by decide +kernel
theorem dX6_luck_42 : decode cX6_luck 42 = .ok (.lreturn, 1) := by decide +kernel
theorem dX6_luck_43 : decode cX6_luck 43 = .ok (.aload_n 0, 1) := by decide +kernel
theorem dX6_luck_44 : decode cX6_luck 44 = .ok (.invokevirtual 167, 3) := by decide +kernel
theorem dX6_luck_47 : decode cX6_luck 47 = .ok (.invokestatic 170, 3) := by decide +kernel
theorem dX6_luck_50 : decode cX6_luck 50 = .ok (.bipush 8, 2) := by decide +kernel
theorem dX6_luck_52 : decode cX6_luck 52 = .ok (.if_icmp .le 9, 3) := by decide +kernel
theorem dX6_luck_55 : decode cX6_luck 55 = .ok (.ldc2_w 246, 3) := by decide +kernel
theorem dX6_luck_58 : decode cX6_luck 58 = .ok (.goto 12, 3) := by decide +kernel
theorem dX6_luck_61 : decode cX6_luck 61 = .ok (.aload_n 0, 1) := by decide +kernel
theorem dX6_luck_62 : decode cX6_luck 62 = .ok (.iload_n 1, 1) := by decide +kernel
theorem dX6_luck_63 : decode cX6_luck 63 = .ok (.iload_n 2, 1) := by decide +kernel
theorem dX6_luck_64 : decode cX6_luck 64 = .ok (.iload_n 3, 1) := by decide +kernel
theorem dX6_luck_65 : decode cX6_luck 65 = .ok (.iload 4, 2) := by decide +kernel
theorem dX6_luck_67 : decode cX6_luck 67 = .ok (.invokevirtual 248, 3) := by decide +kernel
theorem dX6_luck_70 : decode cX6_luck 70 = .ok (.lreturn, 1) := by decide +kernel
theorem dX6_mean_0 : decode cX6_mean 0 = .ok (.iload_n 1, 1) := by decide +kernel
theorem dX6_mean_1 : decode cX6_mean 1 = .ok (.i2l, 1) := by decide +kernel
theorem dX6_mean_2 : decode cX6_mean 2 = .ok (.lconst 0, 1) := by decide +kernel
theorem dX6_mean_3 : decode cX6_mean 3 = .ok (.ldc2_w 238, 3) := by decide +kernel
theorem dX6_mean_6 : decode cX6_mean 6 = .ok (.invokestatic 73, 3) := by decide +kernel
theorem dX6_mean_9 : decode cX6_mean 9 = .ok (.ifCond .eq 21, 3) := by decide +kernel
theorem dX6_mean_12 : decode cX6_mean 12 = .ok (.aload_n 0, 1) := by decide +kernel
theorem dX6_mean_13 : decode cX6_mean 13 = .ok (.iload_n 2, 1) := by decide +kernel
theorem dX6_mean_14 : decode cX6_mean 14 = .ok (.invokevirtual 179, 3) := by decide +kernel
theorem dX6_mean_17 : decode cX6_mean 17 = .ok (.ifCond .eq 13, 3) := by decide +kernel
theorem dX6_mean_20 : decode cX6_mean 20 = .ok (.iload_n 3, 1) := by decide +kernel
theorem dX6_mean_21 : decode cX6_mean 21 = .ok (.i2l, 1) := by decide +kernel
theorem dX6_mean_22 : decode cX6_mean 22 = .ok (.lconst 0, 1) := by decide +kernel
theorem dX6_mean_23 : decode cX6_mean 23 = .ok (.lconst 1, 1) := by decide +kernel
theorem dX6_mean_24 : decode cX6_mean 24 = .ok (.invokestatic 73, 3) := by decide +kernel
theorem dX6_mean_27 : decode cX6_mean 27 = .ok (.ifCond .ne 7, 3) := by decide +kernel
theorem dX6_mean_30 : decode cX6_mean 30 = .ok (.ldc2_w 244, 3) := by decide +kernel
theorem dX6_mean_33 : decode cX6_mean 33 = .ok (.lreturn, 1) := by decide +kernel
theorem dX6_mean_34 : decode cX6_mean 34 = .ok (.aload_n 0, 1) := by decide +kernel
theorem dX6_mean_35 : decode cX6_mean 35 = .ok (.invokevirtual 167, 3) := by decide +kernel
theorem dX6_mean_38 : decode cX6_mean 38 = .ok (.invokestatic 170, 3) := by decide +kernel
theorem dX6_mean_41 : decode cX6_mean 41 = .ok (.bipush 8, 2) := by decide +kernel
theorem dX6_mean_43 : decode cX6_mean 43 = .ok (.if_icmp .le 9, 3) := by decide +kernel
theorem dX6_mean_46 : decode cX6_mean 46 = .ok (.ldc2_w 246, 3) := by decide +kernel
theorem dX6_mean_49 : decode cX6_mean 49 = .ok (.goto 12, 3) := by decide +kernel
theorem dX6_mean_52 : decode cX6_mean 52 = .ok (.aload_n 0, 1) := by decide +kernel
theorem dX6_mean_53 : decode cX6_mean 53 = .ok (.iload_n 1, 1) := by decide +kernel
theorem dX6_mean_54 : decode cX6_mean 54 = .ok (.bipush (-4), 2) := by decide +kernel
theorem dX6_mean_56 : decode cX6_mean 56 = .ok (.iload_n 2, 1) := by decide +kernel
theorem dX6_mean_57 : decode cX6_mean 57 = .ok (.iload_n 3, 1) := by decide +kernel
theorem dX6_mean_58 : decode cX6_mean 58 = .ok (.invokevirtual 248, 3) := by decide +kernel
theorem dX6_mean_61 : decode cX6_mean 61 = .ok (.lreturn, 1) := by decide +kernel
theorem dX6_see_0 : decode cX6_see 0 = .ok (.aload_n 0, 1) := by decide +kernel
theorem dX6_see_1 : decode cX6_see 1 = .ok (.iload_n 1, 1) := by decide +kernel
theorem dX6_see_2 : decode cX6_see 2 = .ok (.invokevirtual 173, 3) := by decide +kernel
theorem dX6_see_5 : decode cX6_see 5 = .ok (.ifCond .eq 27, 3) := by decide +kernel
theorem dX6_see_8 : decode cX6_see 8 = .ok (.iload_n 2, 1) := by decide +kernel
theorem dX6_see_9 : decode cX6_see 9 = .ok (.i2l, 1) := by decide +kernel
theorem dX6_see_10 : decode cX6_see 10 = .ok (.lconst 0, 1) := by decide +kernel
theorem dX6_see_11 : decode cX6_see 11 = .ok (.ldc2_w 216, 3) := by decide +kernel
theorem dX6_see_14 : decode cX6_see 14 = .ok (.invokestatic 73, 3) := by decide +kernel
theorem dX6_see_17 : decode cX6_see 17 = .ok (.ifCond .eq 15, 3) := by decide +kernel
theorem dX6_see_20 : decode cX6_see 20 = .ok (.iload_n 3, 1) := by decide +kernel
theorem dX6_see_21 : decode cX6_see 21 = .ok (.i2l, 1) := by decide +kernel
theorem dX6_see_22 : decode cX6_see 22 = .ok (.lconst 0, 1) := by decide +kernel
theorem dX6_see_23 : decode cX6_see 23 = .ok (.ldc2_w 252, 3) := by decide +kernel
theorem dX6_see_26 : decode cX6_see 26 = .ok (.invokestatic 73, 3) := by decide +kernel
theorem dX6_see_29 : decode cX6_see 29 = .ok (.ifCond .ne 5, 3) := by decide +kernel
theorem dX6_see_32 : decode cX6_see 32 = .ok (.iconst (-1), 1) := by decide +kernel
theorem dX6_see_33 : decode cX6_see 33 = .ok (.ireturn, 1) := by decide +kernel
theorem dX6_see_34 : decode cX6_see 34 = .ok (.aload_n 0, 1) := by decide +kernel
theorem dX6_see_35 : decode cX6_see 35 = .ok (.getfield 159, 3) := by decide +kernel
theorem dX6_see_38 : decode cX6_see 38 = .ok (.bipush 6, 2) := by decide +kernel
theorem dX6_see_40 : decode cX6_see 40 = .ok (.if_icmp .ne 6, 3) := by decide +kernel
theorem dX6_see_43 : decode cX6_see 43 = .ok (.bipush (-3), 2) := by decide +kernel
theorem dX6_see_45 : decode cX6_see 45 = .ok (.ireturn, 1) := by decide +kernel
theorem dX6_see_46 : decode cX6_see 46 = .ok (.aload_n 0, 1) := by decide +kernel
theorem dX6_see_47 : decode cX6_see 47 = .ok (.getfield 52, 3) := by decide +kernel
theorem dX6_see_50 : decode cX6_see 50 = .ok (.iconst 3, 1) := by decide +kernel
theorem dX6_see_51 : decode cX6_see 51 = .ok (.aload_n 0, 1) := by decide +kernel
theorem dX6_see_52 : decode cX6_see 52 = .ok (.getfield 159, 3) := by decide +kernel
theorem dX6_see_55 : decode cX6_see 55 = .ok (.imul, 1) := by decide +kernel
theorem dX6_see_56 : decode cX6_see 56 = .ok (.iload_n 1, 1) := by decide +kernel
theorem dX6_see_57 : decode cX6_see 57 = .ok (.iastore, 1) := by decide +kernel
theorem dX6_see_58 : decode cX6_see 58 = .ok (.aload_n 0, 1) := by decide +kernel
theorem dX6_see_59 : decode cX6_see 59 = .ok (.getfield 52, 3) := by decide +kernel
theorem dX6_see_62 : decode cX6_see 62 = .ok (.iconst 3, 1) := by decide +kernel
theorem dX6_see_63 : decode cX6_see 63 = .ok (.aload_n 0, 1) := by decide +kernel
theorem dX6_see_64 : decode cX6_see 64 = .ok (.getfield 159, 3) := by decide +kernel
theorem dX6_see_67 : decode cX6_see 67 = .ok (.imul, 1) := by decide +kernel
theorem dX6_see_68 : decode cX6_see 68 = .ok (.iconst 1, 1) := by decide +kernel
theorem dX6_see_69 : decode cX6_see 69 = .ok (.iadd, 1) := by decide +kernel
theorem dX6_see_70 : decode cX6_see 70 = .ok (.iload_n 2, 1) := by decide +kernel
theorem dX6_see_71 : decode cX6_see 71 = .ok (.iastore, 1) := by decide +kernel
theorem dX6_see_72 : decode cX6_see 72 = .ok (.aload_n 0, 1) := by decide +kernel
theorem dX6_see_73 : decode cX6_see 73 = .ok (.getfield 52, 3) := by decide +kernel
theorem dX6_see_76 : decode cX6_see 76 = .ok (.iconst 3, 1) := by decide +kernel
theorem dX6_see_77 : decode cX6_see 77 = .ok (.aload_n 0, 1) := by decide +kernel
theorem dX6_see_78 : decode cX6_see 78 = .ok (.getfield 159, 3) := by decide +kernel
theorem dX6_see_81 : decode cX6_see 81 = .ok (.imul, 1) := by decide +kernel
theorem dX6_see_82 : decode cX6_see 82 = .ok (.iconst 2, 1) := by decide +kernel
theorem dX6_see_83 : decode cX6_see 83 = .ok (.iadd, 1) := by decide +kernel
theorem dX6_see_84 : decode cX6_see 84 = .ok (.iload_n 3, 1) := by decide +kernel
theorem dX6_see_85 : decode cX6_see 85 = .ok (.iastore, 1) := by decide +kernel
theorem dX6_see_86 : decode cX6_see 86 = .ok (.aload_n 0, 1) := by decide +kernel
theorem dX6_see_87 : decode cX6_see 87 = .ok (.dup, 1) := by decide +kernel
theorem dX6_see_88 : decode cX6_see 88 = .ok (.getfield 159, 3) := by decide +kernel
theorem dX6_see_91 : decode cX6_see 91 = .ok (.iconst 1, 1) := by decide +kernel
theorem dX6_see_92 : decode cX6_see 92 = .ok (.iadd, 1) := by decide +kernel
theorem dX6_see_93 : decode cX6_see 93 = .ok (.putfield 159, 3) := by decide +kernel
theorem dX6_see_96 : decode cX6_see 96 = .ok (.aload_n 0, 1) := by decide +kernel
theorem dX6_see_97 : decode cX6_see 97 = .ok (.getfield 159, 3) := by decide +kernel
theorem dX6_see_100 : decode cX6_see 100 = .ok (.ireturn, 1) := by decide +kernel
theorem dX6_forget_0 : decode cX6_forget 0 = .ok (.iload_n 1, 1) := by decide +kernel
theorem dX6_forget_1 : decode cX6_forget 1 = .ok (.i2l, 1) := by decide +kernel
theorem dX6_forget_2 : decode cX6_forget 2 = .ok (.lconst 0, 1) := by decide +kernel
theorem dX6_forget_3 : decode cX6_forget 3 = .ok (.aload_n 0, 1) := by decide +kernel
theorem dX6_forget_4 : decode cX6_forget 4 = .ok (.getfield 159, 3) := by decide +kernel
theorem dX6_forget_7 : decode cX6_forget 7 = .ok (.i2l, 1) := by decide +kernel
theorem dX6_forget_8 : decode cX6_forget 8 = .ok (.invokestatic 73, 3) := by decide +kernel
theorem dX6_forget_11 : decode cX6_forget 11 = .ok (.ifCond .ne 5, 3) := by decide +kernel
theorem dX6_forget_14 : decode cX6_forget 14 = .ok (.iconst (-1), 1) := by decide +kernel
theorem dX6_forget_15 : decode cX6_forget 15 = .ok (.ireturn, 1) := by decide +kernel
theorem dX6_forget_16 : decode cX6_forget 16 = .ok (.aload_n 0, 1) := by decide +kernel
theorem dX6_forget_17 : decode cX6_forget 17 = .ok (.getfield 159, 3) := by decide +kernel
theorem dX6_forget_20 : decode cX6_forget 20 = .ok (.istore_n 2, 1) := by decide +kernel
theorem dX6_forget_21 : decode cX6_forget 21 = .ok (.aload_n 0, 1) := by decide +kernel
theorem dX6_forget_22 : decode cX6_forget 22 = .ok (.iload_n 1, 1) := by decide +kernel
theorem dX6_forget_23 : decode cX6_forget 23 = .ok (.putfield 159, 3) := by decide +kernel
theorem dX6_forget_26 : decode cX6_forget 26 = .ok (.iload_n 2, 1) := by decide +kernel
theorem dX6_forget_27 : decode cX6_forget 27 = .ok (.ireturn, 1) := by decide +kernel
theorem dX6_isAsSeen_0 : decode cX6_isAsSeen 0 = .ok (.iconst 1, 1) := by decide +kernel
theorem dX6_isAsSeen_1 : decode cX6_isAsSeen 1 = .ok (.istore_n 1, 1) := by decide +kernel
theorem dX6_isAsSeen_2 : decode cX6_isAsSeen 2 = .ok (.iconst 0, 1) := by decide +kernel
theorem dX6_isAsSeen_3 : decode cX6_isAsSeen 3 = .ok (.istore_n 2, 1) := by decide +kernel
theorem dX6_isAsSeen_4 : decode cX6_isAsSeen 4 = .ok (.iload_n 2, 1) := by decide +kernel
theorem dX6_isAsSeen_5 : decode cX6_isAsSeen 5 = .ok (.aload_n 0, 1) := by decide +kernel
theorem dX6_isAsSeen_6 : decode cX6_isAsSeen 6 = .ok (.getfield 159, 3) := by decide +kernel
theorem dX6_isAsSeen_9 : decode cX6_isAsSeen 9 = .ok (.if_icmp .ge 78, 3) := by decide +kernel
theorem dX6_isAsSeen_12 : decode cX6_isAsSeen 12 = .ok (.iload_n 1, 1) := by decide +kernel
theorem dX6_isAsSeen_13 : decode cX6_isAsSeen 13 = .ok (.ifCond .eq 74, 3) := by decide +kernel
theorem dX6_isAsSeen_16 : decode cX6_isAsSeen 16 = .ok (.aload_n 0, 1) := by decide +kernel
theorem dX6_isAsSeen_17 : decode cX6_isAsSeen 17 = .ok (.iconst 0, 1) := by decide +kernel
theorem dX6_isAsSeen_18 : decode cX6_isAsSeen 18 = .ok (.aload_n 0, 1) := by decide +kernel
theorem dX6_isAsSeen_19 : decode cX6_isAsSeen 19 = .ok (.getfield 52, 3) := by decide +kernel
theorem dX6_isAsSeen_22 : decode cX6_isAsSeen 22 = .ok (.iconst 3, 1) := by decide +kernel
theorem dX6_isAsSeen_23 : decode cX6_isAsSeen 23 = .ok (.iload_n 2, 1) := by decide +kernel
theorem dX6_isAsSeen_24 : decode cX6_isAsSeen 24 = .ok (.imul, 1) := by decide +kernel
theorem dX6_isAsSeen_25 : decode cX6_isAsSeen 25 = .ok (.iconst 1, 1) := by decide +kernel
theorem dX6_isAsSeen_26 : decode cX6_isAsSeen 26 = .ok (.iadd, 1) := by decide +kernel
theorem dX6_isAsSeen_27 : decode cX6_isAsSeen 27 = .ok (.iaload, 1) := by decide +kernel
theorem dX6_isAsSeen_28 : decode cX6_isAsSeen 28 = .ok (.invokevirtual 208, 3) := by decide +kernel
theorem dX6_isAsSeen_31 : decode cX6_isAsSeen 31 = .ok (.aload_n 0, 1) := by decide +kernel
theorem dX6_isAsSeen_32 : decode cX6_isAsSeen 32 = .ok (.aload_n 0, 1) := by decide +kernel
theorem dX6_isAsSeen_33 : decode cX6_isAsSeen 33 = .ok (.getfield 52, 3) := by decide +kernel
theorem dX6_isAsSeen_36 : decode cX6_isAsSeen 36 = .ok (.iconst 3, 1) := by decide +kernel
theorem dX6_isAsSeen_37 : decode cX6_isAsSeen 37 = .ok (.iload_n 2, 1) := by decide +kernel
theorem dX6_isAsSeen_38 : decode cX6_isAsSeen 38 = .ok (.imul, 1) := by decide +kernel
theorem dX6_isAsSeen_39 : decode cX6_isAsSeen 39 = .ok (.iaload, 1) := by decide +kernel
theorem dX6_isAsSeen_40 : decode cX6_isAsSeen 40 = .ok (.invokevirtual 173, 3) := by decide +kernel
theorem dX6_isAsSeen_43 : decode cX6_isAsSeen 43 = .ok (.ifCond .eq 36, 3) := by decide +kernel
theorem dX6_isAsSeen_46 : decode cX6_isAsSeen 46 = .ok (.bipush 10, 2) := by decide +kernel
theorem dX6_isAsSeen_48 : decode cX6_isAsSeen 48 = .ok (.aload_n 0, 1) := by decide +kernel
theorem dX6_isAsSeen_49 : decode cX6_isAsSeen 49 = .ok (.getfield 28, 3) := by decide +kernel
theorem dX6_isAsSeen_52 : decode cX6_isAsSeen 52 = .ok (.aload_n 0, 1) := by decide +kernel
theorem dX6_isAsSeen_53 : decode cX6_isAsSeen 53 = .ok (.getfield 52, 3) := by decide +kernel
theorem dX6_isAsSeen_56 : decode cX6_isAsSeen 56 = .ok (.iconst 3, 1) := by decide +kernel
theorem dX6_isAsSeen_57 : decode cX6_isAsSeen 57 = .ok (.iload_n 2, 1) := by decide +kernel
theorem dX6_isAsSeen_58 : decode cX6_isAsSeen 58 = .ok (.imul, 1) := by decide +kernel
theorem dX6_isAsSeen_59 : decode cX6_isAsSeen 59 = .ok (.iaload, 1) := by decide +kernel
theorem dX6_isAsSeen_60 : decode cX6_isAsSeen 60 = .ok (.iaload, 1) := by decide +kernel
theorem dX6_isAsSeen_61 : decode cX6_isAsSeen 61 = .ok (.iadd, 1) := by decide +kernel
theorem dX6_isAsSeen_62 : decode cX6_isAsSeen 62 = .ok (.aload_n 0, 1) := by decide +kernel
theorem dX6_isAsSeen_63 : decode cX6_isAsSeen 63 = .ok (.getfield 52, 3) := by decide +kernel
theorem dX6_isAsSeen_66 : decode cX6_isAsSeen 66 = .ok (.iconst 3, 1) := by decide +kernel
theorem dX6_isAsSeen_67 : decode cX6_isAsSeen 67 = .ok (.iload_n 2, 1) := by decide +kernel
theorem dX6_isAsSeen_68 : decode cX6_isAsSeen 68 = .ok (.imul, 1) := by decide +kernel
theorem dX6_isAsSeen_69 : decode cX6_isAsSeen 69 = .ok (.iconst 2, 1) := by decide +kernel
theorem dX6_isAsSeen_70 : decode cX6_isAsSeen 70 = .ok (.iadd, 1) := by decide +kernel
theorem dX6_isAsSeen_71 : decode cX6_isAsSeen 71 = .ok (.iaload, 1) := by decide +kernel
theorem dX6_isAsSeen_72 : decode cX6_isAsSeen 72 = .ok (.if_icmp .ne 7, 3) := by decide +kernel
theorem dX6_isAsSeen_75 : decode cX6_isAsSeen 75 = .ok (.iconst 1, 1) := by decide +kernel
theorem dX6_isAsSeen_76 : decode cX6_isAsSeen 76 = .ok (.goto 4, 3) := by decide +kernel
theorem dX6_isAsSeen_79 : decode cX6_isAsSeen 79 = .ok (.iconst 0, 1) := by decide +kernel
theorem dX6_isAsSeen_80 : decode cX6_isAsSeen 80 = .ok (.istore_n 1, 1) := by decide +kernel
theorem dX6_isAsSeen_81 : decode cX6_isAsSeen 81 = .ok (.iinc 2 1, 3) := by decide +kernel
theorem dX6_isAsSeen_84 : decode cX6_isAsSeen 84 = .ok (.goto (-80), 3) := by decide +kernel
theorem dX6_isAsSeen_87 : decode cX6_isAsSeen 87 = .ok (.iload_n 1, 1) := by decide +kernel
theorem dX6_isAsSeen_88 : decode cX6_isAsSeen 88 = .ok (.ireturn, 1) := by decide +kernel
theorem dX6_kindsOf_0 : decode cX6_kindsOf 0 = .ok (.aload_n 0, 1) := by decide +kernel
theorem dX6_kindsOf_1 : decode cX6_kindsOf 1 = .ok (.getfield 7, 3) := by decide +kernel
theorem dX6_kindsOf_4 : decode cX6_kindsOf 4 = .ok (.iload_n 1, 1) := by decide +kernel
theorem dX6_kindsOf_5 : decode cX6_kindsOf 5 = .ok (.iaload, 1) := by decide +kernel
theorem dX6_kindsOf_6 : decode cX6_kindsOf 6 = .ok (.istore_n 2, 1) := by decide +kernel
theorem dX6_kindsOf_7 : decode cX6_kindsOf 7 = .ok (.iconst 0, 1) := by decide +kernel
theorem dX6_kindsOf_8 : decode cX6_kindsOf 8 = .ok (.istore_n 3, 1) := by decide +kernel
theorem dX6_kindsOf_9 : decode cX6_kindsOf 9 = .ok (.iconst 0, 1) := by decide +kernel
theorem dX6_kindsOf_10 : decode cX6_kindsOf 10 = .ok (.istore 4, 2) := by decide +kernel
theorem dX6_kindsOf_12 : decode cX6_kindsOf 12 = .ok (.iload 4, 2) := by decide +kernel
theorem dX6_kindsOf_14 : decode cX6_kindsOf 14 = .ok (.iconst 4, 1) := by decide +kernel
theorem dX6_kindsOf_15 : decode cX6_kindsOf 15 = .ok (.if_icmp .ge 77, 3) := by decide +kernel
theorem dX6_kindsOf_18 : decode cX6_kindsOf 18 = .ok (.aload_n 0, 1) := by decide +kernel
theorem dX6_kindsOf_19 : decode cX6_kindsOf 19 = .ok (.getfield 7, 3) := by decide +kernel
theorem dX6_kindsOf_22 : decode cX6_kindsOf 22 = .ok (.iload_n 1, 1) := by decide +kernel
theorem dX6_kindsOf_23 : decode cX6_kindsOf 23 = .ok (.iload 4, 2) := by decide +kernel
theorem dX6_kindsOf_25 : decode cX6_kindsOf 25 = .ok (.iastore, 1) := by decide +kernel
theorem dX6_kindsOf_26 : decode cX6_kindsOf 26 = .ok (.iload_n 3, 1) := by decide +kernel
theorem dX6_kindsOf_27 : decode cX6_kindsOf 27 = .ok (.aload_n 0, 1) := by decide +kernel
theorem dX6_kindsOf_28 : decode cX6_kindsOf 28 = .ok (.invokevirtual 254, 3) := by decide +kernel
theorem dX6_kindsOf_31 : decode cX6_kindsOf 31 = .ok (.ifCond .eq 10, 3) := by decide +kernel
theorem dX6_kindsOf_34 : decode cX6_kindsOf 34 = .ok (.iconst 1, 1) := by decide +kernel
theorem dX6_kindsOf_35 : decode cX6_kindsOf 35 = .ok (.iload 4, 2) := by decide +kernel
theorem dX6_kindsOf_37 : decode cX6_kindsOf 37 = .ok (.ishl, 1) := by decide +kernel
theorem dX6_kindsOf_38 : decode cX6_kindsOf 38 = .ok (.goto 4, 3) := by decide +kernel
theorem dX6_kindsOf_41 : decode cX6_kindsOf 41 = .ok (.iconst 0, 1) := by decide +kernel
theorem dX6_kindsOf_42 : decode cX6_kindsOf 42 = .ok (.ior, 1) := by decide +kernel
theorem dX6_kindsOf_43 : decode cX6_kindsOf 43 = .ok (.istore_n 3, 1) := by decide +kernel
theorem dX6_kindsOf_44 : decode cX6_kindsOf 44 = .ok (.iconst 0, 1) := by decide +kernel
theorem dX6_kindsOf_45 : decode cX6_kindsOf 45 = .ok (.istore 5, 2) := by decide +kernel
theorem dX6_kindsOf_47 : decode cX6_kindsOf 47 = .ok (.iload 5, 2) := by decide +kernel
theorem dX6_kindsOf_49 : decode cX6_kindsOf 49 = .ok (.bipush 24, 2) := by decide +kernel
theorem dX6_kindsOf_51 : decode cX6_kindsOf 51 = .ok (.if_icmp .gt 35, 3) := by decide +kernel
theorem dX6_kindsOf_54 : decode cX6_kindsOf 54 = .ok (.aload_n 0, 1) := by decide +kernel
theorem dX6_kindsOf_55 : decode cX6_kindsOf 55 = .ok (.iconst 0, 1) := by decide +kernel
theorem dX6_kindsOf_56 : decode cX6_kindsOf 56 = .ok (.iload 5, 2) := by decide +kernel
theorem dX6_kindsOf_58 : decode cX6_kindsOf 58 = .ok (.invokevirtual 208, 3) := by decide +kernel
theorem dX6_kindsOf_61 : decode cX6_kindsOf 61 = .ok (.aload_n 0, 1) := by decide +kernel
theorem dX6_kindsOf_62 : decode cX6_kindsOf 62 = .ok (.getfield 55, 3) := by decide +kernel
theorem dX6_kindsOf_65 : decode cX6_kindsOf 65 = .ok (.bipush 25, 2) := by decide +kernel
theorem dX6_kindsOf_67 : decode cX6_kindsOf 67 = .ok (.iload 4, 2) := by decide +kernel
theorem dX6_kindsOf_69 : decode cX6_kindsOf 69 = .ok (.imul, 1) := by decide +kernel
theorem dX6_kindsOf_70 : decode cX6_kindsOf 70 = .ok (.iload 5, 2) := by decide +kernel
theorem dX6_kindsOf_72 : decode cX6_kindsOf 72 = .ok (.iadd, 1) := by decide +kernel
theorem dX6_kindsOf_73 : decode cX6_kindsOf 73 = .ok (.aload_n 0, 1) := by decide +kernel
theorem dX6_kindsOf_74 : decode cX6_kindsOf 74 = .ok (.getfield 28, 3) := by decide +kernel
theorem dX6_kindsOf_77 : decode cX6_kindsOf 77 = .ok (.iload_n 1, 1) := by decide +kernel
theorem dX6_kindsOf_78 : decode cX6_kindsOf 78 = .ok (.iaload, 1) := by decide +kernel
theorem dX6_kindsOf_79 : decode cX6_kindsOf 79 = .ok (.iastore, 1) := by decide +kernel
theorem dX6_kindsOf_80 : decode cX6_kindsOf 80 = .ok (.iinc 5 1, 3) := by decide +kernel
theorem dX6_kindsOf_83 : decode cX6_kindsOf 83 = .ok (.goto (-36), 3) := by decide +kernel
theorem dX6_kindsOf_86 : decode cX6_kindsOf 86 = .ok (.iinc 4 1, 3) := by decide +kernel
theorem dX6_kindsOf_89 : decode cX6_kindsOf 89 = .ok (.goto (-77), 3) := by decide +kernel
theorem dX6_kindsOf_92 : decode cX6_kindsOf 92 = .ok (.aload_n 0, 1) := by decide +kernel
theorem dX6_kindsOf_93 : decode cX6_kindsOf 93 = .ok (.getfield 7, 3) := by decide +kernel
theorem dX6_kindsOf_96 : decode cX6_kindsOf 96 = .ok (.iload_n 1, 1) := by decide +kernel
theorem dX6_kindsOf_97 : decode cX6_kindsOf 97 = .ok (.iload_n 2, 1) := by decide +kernel
theorem dX6_kindsOf_98 : decode cX6_kindsOf 98 = .ok (.iastore, 1) := by decide +kernel
theorem dX6_kindsOf_99 : decode cX6_kindsOf 99 = .ok (.iload_n 3, 1) := by decide +kernel
theorem dX6_kindsOf_100 : decode cX6_kindsOf 100 = .ok (.ireturn, 1) := by decide +kernel
theorem dX6_kinds_0 : decode cX6_kinds 0 = .ok (.aload_n 0, 1) := by decide +kernel
theorem dX6_kinds_1 : decode cX6_kinds 1 = .ok (.iload_n 1, 1) := by decide +kernel
theorem dX6_kinds_2 : decode cX6_kinds 2 = .ok (.invokevirtual 173, 3) := by decide +kernel
theorem dX6_kinds_5 : decode cX6_kinds 5 = .ok (.ifCond .eq 11, 3) := by decide +kernel
theorem dX6_kinds_8 : decode cX6_kinds 8 = .ok (.aload_n 0, 1) := by decide +kernel
theorem dX6_kinds_9 : decode cX6_kinds 9 = .ok (.iload_n 1, 1) := by decide +kernel
theorem dX6_kinds_10 : decode cX6_kinds 10 = .ok (.invokevirtual 258, 3) := by decide +kernel
theorem dX6_kinds_13 : decode cX6_kinds 13 = .ok (.goto 4, 3) := by decide +kernel
theorem dX6_kinds_16 : decode cX6_kinds 16 = .ok (.iconst (-1), 1) := by decide +kernel
theorem dX6_kinds_17 : decode cX6_kinds 17 = .ok (.ireturn, 1) := by decide +kernel
theorem dX6_sets_0 : decode cX6_sets 0 = .ok (.iload_n 1, 1) := by decide +kernel
theorem dX6_sets_1 : decode cX6_sets 1 = .ok (.i2l, 1) := by decide +kernel
theorem dX6_sets_2 : decode cX6_sets 2 = .ok (.lconst 0, 1) := by decide +kernel
theorem dX6_sets_3 : decode cX6_sets 3 = .ok (.ldc2_w 184, 3) := by decide +kernel
theorem dX6_sets_6 : decode cX6_sets 6 = .ok (.invokestatic 73, 3) := by decide +kernel
theorem dX6_sets_9 : decode cX6_sets 9 = .ok (.ifCond .ne 5, 3) := by decide +kernel
theorem dX6_sets_12 : decode cX6_sets 12 = .ok (.iconst (-1), 1) := by decide +kernel
theorem dX6_sets_13 : decode cX6_sets 13 = .ok (.ireturn, 1) := by decide +kernel
theorem dX6_sets_14 : decode cX6_sets 14 = .ok (.aload_n 0, 1) := by decide +kernel
theorem dX6_sets_15 : decode cX6_sets 15 = .ok (.getfield 7, 3) := by decide +kernel
theorem dX6_sets_18 : decode cX6_sets 18 = .ok (.bipush 37, 2) := by decide +kernel
theorem dX6_sets_20 : decode cX6_sets 20 = .ok (.iload_n 1, 1) := by decide +kernel
theorem dX6_sets_21 : decode cX6_sets 21 = .ok (.iadd, 1) := by decide +kernel
theorem dX6_sets_22 : decode cX6_sets 22 = .ok (.iaload, 1) := by decide +kernel
theorem dX6_sets_23 : decode cX6_sets 23 = .ok (.istore_n 2, 1) := by decide +kernel
theorem dX6_sets_24 : decode cX6_sets 24 = .ok (.iconst 0, 1) := by decide +kernel
theorem dX6_sets_25 : decode cX6_sets 25 = .ok (.istore_n 3, 1) := by decide +kernel
theorem dX6_sets_26 : decode cX6_sets 26 = .ok (.iconst 0, 1) := by decide +kernel
theorem dX6_sets_27 : decode cX6_sets 27 = .ok (.istore 4, 2) := by decide +kernel
theorem dX6_sets_29 : decode cX6_sets 29 = .ok (.iload 4, 2) := by decide +kernel
theorem dX6_sets_31 : decode cX6_sets 31 = .ok (.iconst 4, 1) := by decide +kernel
theorem dX6_sets_32 : decode cX6_sets 32 = .ok (.if_icmp .gt 40, 3) := by decide +kernel
theorem dX6_sets_35 : decode cX6_sets 35 = .ok (.aload_n 0, 1) := by decide +kernel
theorem dX6_sets_36 : decode cX6_sets 36 = .ok (.getfield 7, 3) := by decide +kernel
theorem dX6_sets_39 : decode cX6_sets 39 = .ok (.bipush 37, 2) := by decide +kernel
theorem dX6_sets_41 : decode cX6_sets 41 = .ok (.iload_n 1, 1) := by decide +kernel
theorem dX6_sets_42 : decode cX6_sets 42 = .ok (.iadd, 1) := by decide +kernel
theorem dX6_sets_43 : decode cX6_sets 43 = .ok (.iload 4, 2) := by decide +kernel
theorem dX6_sets_45 : decode cX6_sets 45 = .ok (.iconst 2, 1) := by decide +kernel
theorem dX6_sets_46 : decode cX6_sets 46 = .ok (.isub, 1) := by decide +kernel
theorem dX6_sets_47 : decode cX6_sets 47 = .ok (.iastore, 1) := by decide +kernel
theorem dX6_sets_48 : decode cX6_sets 48 = .ok (.iload_n 3, 1) := by decide +kernel
theorem dX6_sets_49 : decode cX6_sets 49 = .ok (.aload_n 0, 1) := by decide +kernel
theorem dX6_sets_50 : decode cX6_sets 50 = .ok (.invokevirtual 254, 3) := by decide +kernel
theorem dX6_sets_53 : decode cX6_sets 53 = .ok (.ifCond .eq 10, 3) := by decide +kernel
theorem dX6_sets_56 : decode cX6_sets 56 = .ok (.iconst 1, 1) := by decide +kernel
theorem dX6_sets_57 : decode cX6_sets 57 = .ok (.iload 4, 2) := by decide +kernel
theorem dX6_sets_59 : decode cX6_sets 59 = .ok (.ishl, 1) := by decide +kernel
theorem dX6_sets_60 : decode cX6_sets 60 = .ok (.goto 4, 3) := by decide +kernel
theorem dX6_sets_63 : decode cX6_sets 63 = .ok (.iconst 0, 1) := by decide +kernel
theorem dX6_sets_64 : decode cX6_sets 64 = .ok (.ior, 1) := by decide +kernel
theorem dX6_sets_65 : decode cX6_sets 65 = .ok (.istore_n 3, 1) := by decide +kernel
theorem dX6_sets_66 : decode cX6_sets 66 = .ok (.iinc 4 1, 3) := by decide +kernel
theorem dX6_sets_69 : decode cX6_sets 69 = .ok (.goto (-40), 3) := by decide +kernel
theorem dX6_sets_72 : decode cX6_sets 72 = .ok (.aload_n 0, 1) := by decide +kernel
theorem dX6_sets_73 : decode cX6_sets 73 = .ok (.getfield 7, 3) := by decide +kernel
theorem dX6_sets_76 : decode cX6_sets 76 = .ok (.bipush 37, 2) := by decide +kernel
theorem dX6_sets_78 : decode cX6_sets 78 = .ok (.iload_n 1, 1) := by decide +kernel
theorem dX6_sets_79 : decode cX6_sets 79 = .ok (.iadd, 1) := by decide +kernel
theorem dX6_sets_80 : decode cX6_sets 80 = .ok (.iload_n 2, 1) := by decide +kernel
theorem dX6_sets_81 : decode cX6_sets 81 = .ok (.iastore, 1) := by decide +kernel
theorem dX6_sets_82 : decode cX6_sets 82 = .ok (.iload_n 3, 1) := by decide +kernel
theorem dX6_sets_83 : decode cX6_sets 83 = .ok (.ireturn, 1) := by decide +kernel
theorem dX6_look_0 : decode cX6_look 0 = .ok (.aload_n 0, 1) := by decide +kernel
theorem dX6_look_1 : decode cX6_look 1 = .ok (.iload_n 1, 1) := by decide +kernel
theorem dX6_look_2 : decode cX6_look 2 = .ok (.invokevirtual 173, 3) := by decide +kernel
theorem dX6_look_5 : decode cX6_look 5 = .ok (.ifCond .eq 13, 3) := by decide +kernel
theorem dX6_look_8 : decode cX6_look 8 = .ok (.iload_n 2, 1) := by decide +kernel
theorem dX6_look_9 : decode cX6_look 9 = .ok (.i2l, 1) := by decide +kernel
theorem dX6_look_10 : decode cX6_look 10 = .ok (.lconst 0, 1) := by decide +kernel
theorem dX6_look_11 : decode cX6_look 11 = .ok (.lconst 1, 1) := by decide +kernel
theorem dX6_look_12 : decode cX6_look 12 = .ok (.invokestatic 73, 3) := by decide +kernel
theorem dX6_look_15 : decode cX6_look 15 = .ok (.ifCond .ne 5, 3) := by decide +kernel
theorem dX6_look_18 : decode cX6_look 18 = .ok (.iconst (-1), 1) := by decide +kernel
theorem dX6_look_19 : decode cX6_look 19 = .ok (.ireturn, 1) := by decide +kernel
theorem dX6_look_20 : decode cX6_look 20 = .ok (.aload_n 0, 1) := by decide +kernel
theorem dX6_look_21 : decode cX6_look 21 = .ok (.iload_n 1, 1) := by decide +kernel
theorem dX6_look_22 : decode cX6_look 22 = .ok (.invokevirtual 258, 3) := by decide +kernel
theorem dX6_look_25 : decode cX6_look 25 = .ok (.istore_n 3, 1) := by decide +kernel
theorem dX6_look_26 : decode cX6_look 26 = .ok (.iload_n 3, 1) := by decide +kernel
theorem dX6_look_27 : decode cX6_look 27 = .ok (.invokestatic 170, 3) := by decide +kernel
theorem dX6_look_30 : decode cX6_look 30 = .ok (.istore 4, 2) := by decide +kernel
theorem dX6_look_32 : decode cX6_look 32 = .ok (.bipush (-4), 2) := by decide +kernel
theorem dX6_look_34 : decode cX6_look 34 = .ok (.istore 5, 2) := by decide +kernel
theorem dX6_look_36 : decode cX6_look 36 = .ok (.iconst 0, 1) := by decide +kernel
theorem dX6_look_37 : decode cX6_look 37 = .ok (.istore 6, 2) := by decide +kernel
theorem dX6_look_39 : decode cX6_look 39 = .ok (.iload 6, 2) := by decide +kernel
theorem dX6_look_41 : decode cX6_look 41 = .ok (.bipush 24, 2) := by decide +kernel
theorem dX6_look_43 : decode cX6_look 43 = .ok (.if_icmp .gt 152, 3) := by decide +kernel
theorem dX6_look_46 : decode cX6_look 46 = .ok (.iconst 0, 1) := by decide +kernel
theorem dX6_look_47 : decode cX6_look 47 = .ok (.istore 7, 2) := by decide +kernel
theorem dX6_look_49 : decode cX6_look 49 = .ok (.iconst 0, 1) := by decide +kernel
theorem dX6_look_50 : decode cX6_look 50 = .ok (.istore 8, 2) := by decide +kernel
theorem dX6_look_52 : decode cX6_look 52 = .ok (.iload 8, 2) := by decide +kernel
theorem dX6_look_54 : decode cX6_look 54 = .ok (.iconst 4, 1) := by decide +kernel
theorem dX6_look_55 : decode cX6_look 55 = .ok (.if_icmp .ge 102, 3) := by decide +kernel
theorem dX6_look_58 : decode cX6_look 58 = .ok (.iconst 0, 1) := by decide +kernel
theorem dX6_look_59 : decode cX6_look 59 = .ok (.istore 9, 2) := by decide +kernel
theorem dX6_look_61 : decode cX6_look 61 = .ok (.iconst 0, 1) := by decide +kernel
theorem dX6_look_62 : decode cX6_look 62 = .ok (.istore 10, 2) := by decide +kernel
theorem dX6_look_64 : decode cX6_look 64 = .ok (.iload 10, 2) := by decide +kernel
theorem dX6_look_66 : decode cX6_look 66 = .ok (.iconst 4, 1) := by decide +kernel
theorem dX6_look_67 : decode cX6_look 67 = .ok (.if_icmp .ge 68, 3) := by decide +kernel
theorem dX6_look_70 : decode cX6_look 70 = .ok (.iload_n 3, 1) := by decide +kernel
theorem dX6_look_71 : decode cX6_look 71 = .ok (.iload 8, 2) := by decide +kernel
theorem dX6_look_73 : decode cX6_look 73 = .ok (.ishr, 1) := by decide +kernel
theorem dX6_look_74 : decode cX6_look 74 = .ok (.iconst 1, 1) := by decide +kernel
theorem dX6_look_75 : decode cX6_look 75 = .ok (.iand, 1) := by decide +kernel
theorem dX6_look_76 : decode cX6_look 76 = .ok (.iconst 1, 1) := by decide +kernel
theorem dX6_look_77 : decode cX6_look 77 = .ok (.if_icmp .ne 58, 3) := by decide +kernel
theorem dX6_look_80 : decode cX6_look 80 = .ok (.iload 9, 2) := by decide +kernel
theorem dX6_look_82 : decode cX6_look 82 = .ok (.iload_n 3, 1) := by decide +kernel
theorem dX6_look_83 : decode cX6_look 83 = .ok (.iload 10, 2) := by decide +kernel
theorem dX6_look_85 : decode cX6_look 85 = .ok (.ishr, 1) := by decide +kernel
theorem dX6_look_86 : decode cX6_look 86 = .ok (.iconst 1, 1) := by decide +kernel
theorem dX6_look_87 : decode cX6_look 87 = .ok (.iand, 1) := by decide +kernel
theorem dX6_look_88 : decode cX6_look 88 = .ok (.iconst 1, 1) := by decide +kernel
theorem dX6_look_89 : decode cX6_look 89 = .ok (.if_icmp .ne 36, 3) := by decide +kernel
theorem dX6_look_92 : decode cX6_look 92 = .ok (.aload_n 0, 1) := by decide +kernel
theorem dX6_look_93 : decode cX6_look 93 = .ok (.getfield 55, 3) := by decide +kernel
theorem dX6_look_96 : decode cX6_look 96 = .ok (.bipush 25, 2) := by decide +kernel
theorem dX6_look_98 : decode cX6_look 98 = .ok (.iload 8, 2) := by decide +kernel
theorem dX6_look_100 : decode cX6_look 100 = .ok (.imul, 1) := by decide +kernel
theorem dX6_look_101 : decode cX6_look 101 = .ok (.iload 6, 2) := by decide +kernel
theorem dX6_look_103 : decode cX6_look 103 = .ok (.iadd, 1) := by decide +kernel
theorem dX6_look_104 : decode cX6_look 104 = .ok (.iaload, 1) := by decide +kernel
theorem dX6_look_105 : decode cX6_look 105 = .ok (.aload_n 0, 1) := by decide +kernel
theorem dX6_look_106 : decode cX6_look 106 = .ok (.getfield 55, 3) := by decide +kernel
theorem dX6_look_109 : decode cX6_look 109 = .ok (.bipush 25, 2) := by decide +kernel
theorem dX6_look_111 : decode cX6_look 111 = .ok (.iload 10, 2) := by decide +kernel
theorem dX6_look_113 : decode cX6_look 113 = .ok (.imul, 1) := by decide +kernel
theorem dX6_look_114 : decode cX6_look 114 = .ok (.iload 6, 2) := by decide +kernel
theorem dX6_look_116 : decode cX6_look 116 = .ok (.iadd, 1) := by decide +kernel
theorem dX6_look_117 : decode cX6_look 117 = .ok (.iaload, 1) := by decide +kernel
theorem dX6_look_118 : decode cX6_look 118 = .ok (.if_icmp .ne 7, 3) := by decide +kernel
theorem dX6_look_121 : decode cX6_look 121 = .ok (.iconst 1, 1) := by decide +kernel
theorem dX6_look_122 : decode cX6_look 122 = .ok (.goto 4, 3) := by decide +kernel
theorem dX6_look_125 : decode cX6_look 125 = .ok (.iconst 0, 1) := by decide +kernel
theorem dX6_look_126 : decode cX6_look 126 = .ok (.iadd, 1) := by decide +kernel
theorem dX6_look_127 : decode cX6_look 127 = .ok (.istore 9, 2) := by decide +kernel
theorem dX6_look_129 : decode cX6_look 129 = .ok (.iinc 10 1, 3) := by decide +kernel
theorem dX6_look_132 : decode cX6_look 132 = .ok (.goto (-68), 3) := by decide +kernel
theorem dX6_look_135 : decode cX6_look 135 = .ok (.iload 9, 2) := by decide +kernel
theorem dX6_look_137 : decode cX6_look 137 = .ok (.iload 7, 2) := by decide +kernel
theorem dX6_look_139 : decode cX6_look 139 = .ok (.if_icmp .le 8, 3) := by decide +kernel
theorem dX6_look_142 : decode cX6_look 142 = .ok (.iload 9, 2) := by decide +kernel
theorem dX6_look_144 : decode cX6_look 144 = .ok (.goto 5, 3) := by decide +kernel
theorem dX6_look_147 : decode cX6_look 147 = .ok (.iload 7, 2) := by decide +kernel
theorem dX6_look_149 : decode cX6_look 149 = .ok (.istore 7, 2) := by decide +kernel
theorem dX6_look_151 : decode cX6_look 151 = .ok (.iinc 8 1, 3) := by decide +kernel
theorem dX6_look_154 : decode cX6_look 154 = .ok (.goto (-102), 3) := by decide +kernel
theorem dX6_look_157 : decode cX6_look 157 = .ok (.iload 7, 2) := by decide +kernel
theorem dX6_look_159 : decode cX6_look 159 = .ok (.iload 4, 2) := by decide +kernel
theorem dX6_look_161 : decode cX6_look 161 = .ok (.if_icmp .ge 8, 3) := by decide +kernel
theorem dX6_look_164 : decode cX6_look 164 = .ok (.iload 6, 2) := by decide +kernel
theorem dX6_look_166 : decode cX6_look 166 = .ok (.goto 5, 3) := by decide +kernel
theorem dX6_look_169 : decode cX6_look 169 = .ok (.iload 5, 2) := by decide +kernel
theorem dX6_look_171 : decode cX6_look 171 = .ok (.istore 5, 2) := by decide +kernel
theorem dX6_look_173 : decode cX6_look 173 = .ok (.iload 7, 2) := by decide +kernel
theorem dX6_look_175 : decode cX6_look 175 = .ok (.iload 4, 2) := by decide +kernel
theorem dX6_look_177 : decode cX6_look 177 = .ok (.if_icmp .ge 8, 3) := by decide +kernel
theorem dX6_look_180 : decode cX6_look 180 = .ok (.iload 7, 2) := by decide +kernel
theorem dX6_look_182 : decode cX6_look 182 = .ok (.goto 5, 3) := by decide +kernel
theorem dX6_look_185 : decode cX6_look 185 = .ok (.iload 4, 2) := by decide +kernel
theorem dX6_look_187 : decode cX6_look 187 = .ok (.istore 4, 2) := by decide +kernel
theorem dX6_look_189 : decode cX6_look 189 = .ok (.iinc 6 1, 3) := by decide +kernel
theorem dX6_look_192 : decode cX6_look 192 = .ok (.goto (-153), 3) := by decide +kernel
theorem dX6_look_195 : decode cX6_look 195 = .ok (.iload 5, 2) := by decide +kernel
theorem dX6_look_197 : decode cX6_look 197 = .ok (.bipush (-4), 2) := by decide +kernel
theorem dX6_look_199 : decode cX6_look 199 = .ok (.if_icmp .eq 7, 3) := by decide +kernel
theorem dX6_look_202 : decode cX6_look 202 = .ok (.iload_n 2, 1) := by decide +kernel
theorem dX6_look_203 : decode cX6_look 203 = .ok (.ifCond .ne 8, 3) := by decide +kernel
theorem dX6_look_206 : decode cX6_look 206 = .ok (.iload 5, 2) := by decide +kernel
theorem dX6_look_208 : decode cX6_look 208 = .ok (.goto 5, 3) := by decide +kernel
theorem dX6_look_211 : decode cX6_look 211 = .ok (.iload 4, 2) := by decide +kernel
theorem dX6_look_213 : decode cX6_look 213 = .ok (.ireturn, 1) := by decide +kernel
theorem dX6_drift_0 : decode cX6_drift 0 = .ok (.iload_n 2, 1) := by decide +kernel
theorem dX6_drift_1 : decode cX6_drift 1 = .ok (.i2l, 1) := by decide +kernel
theorem dX6_drift_2 : decode cX6_drift 2 = .ok (.lconst 1, 1) := by decide +kernel
theorem dX6_drift_3 : decode cX6_drift 3 = .ok (.ldc2_w 261, 3) := by decide +kernel
theorem dX6_drift_6 : decode cX6_drift 6 = .ok (.invokestatic 73, 3) := by decide +kernel
theorem dX6_drift_9 : decode cX6_drift 9 = .ok (.ifCond .eq 13, 3) := by decide +kernel
theorem dX6_drift_12 : decode cX6_drift 12 = .ok (.iload_n 3, 1) := by decide +kernel
theorem dX6_drift_13 : decode cX6_drift 13 = .ok (.i2l, 1) := by decide +kernel
theorem dX6_drift_14 : decode cX6_drift 14 = .ok (.lconst 0, 1) := by decide +kernel
theorem dX6_drift_15 : decode cX6_drift 15 = .ok (.lconst 1, 1) := by decide +kernel
theorem dX6_drift_16 : decode cX6_drift 16 = .ok (.invokestatic 73, 3) := by decide +kernel
theorem dX6_drift_19 : decode cX6_drift 19 = .ok (.ifCond .ne 5, 3) := by decide +kernel
theorem dX6_drift_22 : decode cX6_drift 22 = .ok (.iconst (-1), 1) := by decide +kernel
theorem dX6_drift_23 : decode cX6_drift 23 = .ok (.ireturn, 1) := by decide +kernel
theorem dX6_drift_24 : decode cX6_drift 24 = .ok (.aload_n 0, 1) := by decide +kernel
theorem dX6_drift_25 : decode cX6_drift 25 = .ok (.getfield 7, 3) := by decide +kernel
theorem dX6_drift_28 : decode cX6_drift 28 = .ok (.bipush 20, 2) := by decide +kernel
theorem dX6_drift_30 : decode cX6_drift 30 = .ok (.iaload, 1) := by decide +kernel
theorem dX6_drift_31 : decode cX6_drift 31 = .ok (.ifCond .ne 6, 3) := by decide +kernel
theorem dX6_drift_34 : decode cX6_drift 34 = .ok (.bipush (-2), 2) := by decide +kernel
theorem dX6_drift_36 : decode cX6_drift 36 = .ok (.ireturn, 1) := by decide +kernel
theorem dX6_drift_37 : decode cX6_drift 37 = .ok (.aload_n 0, 1) := by decide +kernel
theorem dX6_drift_38 : decode cX6_drift 38 = .ok (.iconst 0, 1) := by decide +kernel
theorem dX6_drift_39 : decode cX6_drift 39 = .ok (.sipush 288, 3) := by decide +kernel
theorem dX6_drift_42 : decode cX6_drift 42 = .ok (.invokevirtual 226, 3) := by decide +kernel
theorem dX6_drift_45 : decode cX6_drift 45 = .ok (.iload_n 1, 1) := by decide +kernel
theorem dX6_drift_46 : decode cX6_drift 46 = .ok (.istore 4, 2) := by decide +kernel
theorem dX6_drift_48 : decode cX6_drift 48 = .ok (.iconst 0, 1) := by decide +kernel
theorem dX6_drift_49 : decode cX6_drift 49 = .ok (.istore 5, 2) := by decide +kernel
theorem dX6_drift_51 : decode cX6_drift 51 = .ok (.iconst 0, 1) := by decide +kernel
theorem dX6_drift_52 : decode cX6_drift 52 = .ok (.istore 6, 2) := by decide +kernel
theorem dX6_drift_54 : decode cX6_drift 54 = .ok (.iload 6, 2) := by decide +kernel
theorem dX6_drift_56 : decode cX6_drift 56 = .ok (.iload_n 2, 1) := by decide +kernel
theorem dX6_drift_57 : decode cX6_drift 57 = .ok (.if_icmp .ge 99, 3) := by decide +kernel
theorem dX6_drift_60 : decode cX6_drift 60 = .ok (.iload 4, 2) := by decide +kernel
theorem dX6_drift_62 : decode cX6_drift 62 = .ok (.ldc_w 263, 3) := by decide +kernel
theorem dX6_drift_65 : decode cX6_drift 65 = .ok (.imul, 1) := by decide +kernel
theorem dX6_drift_66 : decode cX6_drift 66 = .ok (.sipush 12345, 3) := by decide +kernel
theorem dX6_drift_69 : decode cX6_drift 69 = .ok (.iadd, 1) := by decide +kernel
theorem dX6_drift_70 : decode cX6_drift 70 = .ok (.istore 4, 2) := by decide +kernel
theorem dX6_drift_72 : decode cX6_drift 72 = .ok (.iload 4, 2) := by decide +kernel
theorem dX6_drift_74 : decode cX6_drift 74 = .ok (.bipush 16, 2) := by decide +kernel
theorem dX6_drift_76 : decode cX6_drift 76 = .ok (.ishr, 1) := by decide +kernel
theorem dX6_drift_77 : decode cX6_drift 77 = .ok (.sipush 32767, 3) := by decide +kernel
theorem dX6_drift_80 : decode cX6_drift 80 = .ok (.iand, 1) := by decide +kernel
theorem dX6_drift_81 : decode cX6_drift 81 = .ok (.istore 7, 2) := by decide +kernel
theorem dX6_drift_83 : decode cX6_drift 83 = .ok (.iload 7, 2) := by decide +kernel
theorem dX6_drift_85 : decode cX6_drift 85 = .ok (.aload_n 0, 1) := by decide +kernel
theorem dX6_drift_86 : decode cX6_drift 86 = .ok (.getfield 7, 3) := by decide +kernel
theorem dX6_drift_89 : decode cX6_drift 89 = .ok (.bipush 20, 2) := by decide +kernel
theorem dX6_drift_91 : decode cX6_drift 91 = .ok (.iaload, 1) := by decide +kernel
theorem dX6_drift_92 : decode cX6_drift 92 = .ok (.irem, 1) := by decide +kernel
theorem dX6_drift_93 : decode cX6_drift 93 = .ok (.istore 8, 2) := by decide +kernel
theorem dX6_drift_95 : decode cX6_drift 95 = .ok (.aload_n 0, 1) := by decide +kernel
theorem dX6_drift_96 : decode cX6_drift 96 = .ok (.getfield 7, 3) := by decide +kernel
theorem dX6_drift_99 : decode cX6_drift 99 = .ok (.sipush 292, 3) := by decide +kernel
theorem dX6_drift_102 : decode cX6_drift 102 = .ok (.iload 8, 2) := by decide +kernel
theorem dX6_drift_104 : decode cX6_drift 104 = .ok (.iadd, 1) := by decide +kernel
theorem dX6_drift_105 : decode cX6_drift 105 = .ok (.iload 7, 2) := by decide +kernel
theorem dX6_drift_107 : decode cX6_drift 107 = .ok (.bipush 8, 2) := by decide +kernel
theorem dX6_drift_109 : decode cX6_drift 109 = .ok (.idiv, 1) := by decide +kernel
theorem dX6_drift_110 : decode cX6_drift 110 = .ok (.bipush 10, 2) := by decide +kernel
theorem dX6_drift_112 : decode cX6_drift 112 = .ok (.irem, 1) := by decide +kernel
theorem dX6_drift_113 : decode cX6_drift 113 = .ok (.iastore, 1) := by decide +kernel
theorem dX6_drift_114 : decode cX6_drift 114 = .ok (.aload_n 0, 1) := by decide +kernel
theorem dX6_drift_115 : decode cX6_drift 115 = .ok (.getfield 7, 3) := by decide +kernel
theorem dX6_drift_118 : decode cX6_drift 118 = .ok (.sipush 296, 3) := by decide +kernel
theorem dX6_drift_121 : decode cX6_drift 121 = .ok (.iload 8, 2) := by decide +kernel
theorem dX6_drift_123 : decode cX6_drift 123 = .ok (.iadd, 1) := by decide +kernel
theorem dX6_drift_124 : decode cX6_drift 124 = .ok (.iconst 1, 1) := by decide +kernel
theorem dX6_drift_125 : decode cX6_drift 125 = .ok (.iload 7, 2) := by decide +kernel
theorem dX6_drift_127 : decode cX6_drift 127 = .ok (.sipush 128, 3) := by decide +kernel
theorem dX6_drift_130 : decode cX6_drift 130 = .ok (.idiv, 1) := by decide +kernel
theorem dX6_drift_131 : decode cX6_drift 131 = .ok (.bipush 9, 2) := by decide +kernel
theorem dX6_drift_133 : decode cX6_drift 133 = .ok (.irem, 1) := by decide +kernel
theorem dX6_drift_134 : decode cX6_drift 134 = .ok (.iadd, 1) := by decide +kernel
theorem dX6_drift_135 : decode cX6_drift 135 = .ok (.iastore, 1) := by decide +kernel
theorem dX6_drift_136 : decode cX6_drift 136 = .ok (.iload 5, 2) := by decide +kernel
theorem dX6_drift_138 : decode cX6_drift 138 = .ok (.aload_n 0, 1) := by decide +kernel
theorem dX6_drift_139 : decode cX6_drift 139 = .ok (.sipush 288, 3) := by decide +kernel
theorem dX6_drift_142 : decode cX6_drift 142 = .ok (.bipush (-4), 2) := by decide +kernel
theorem dX6_drift_144 : decode cX6_drift 144 = .ok (.invokevirtual 220, 3) := by decide +kernel
theorem dX6_drift_147 : decode cX6_drift 147 = .ok (.iadd, 1) := by decide +kernel
theorem dX6_drift_148 : decode cX6_drift 148 = .ok (.istore 5, 2) := by decide +kernel
theorem dX6_drift_150 : decode cX6_drift 150 = .ok (.iinc 6 1, 3) := by decide +kernel
theorem dX6_drift_153 : decode cX6_drift 153 = .ok (.goto (-99), 3) := by decide +kernel
theorem dX6_drift_156 : decode cX6_drift 156 = .ok (.iload_n 3, 1) := by decide +kernel
theorem dX6_drift_157 : decode cX6_drift 157 = .ok (.ifCond .ne 8, 3) := by decide +kernel
theorem dX6_drift_160 : decode cX6_drift 160 = .ok (.iload 5, 2) := by decide +kernel
theorem dX6_drift_162 : decode cX6_drift 162 = .ok (.goto 10, 3) := by decide +kernel
theorem dX6_drift_165 : decode cX6_drift 165 = .ok (.aload_n 0, 1) := by decide +kernel
theorem dX6_drift_166 : decode cX6_drift 166 = .ok (.iconst 1, 1) := by decide +kernel
theorem dX6_drift_167 : decode cX6_drift 167 = .ok (.bipush (-4), 2) := by decide +kernel
theorem dX6_drift_169 : decode cX6_drift 169 = .ok (.invokevirtual 223, 3) := by decide +kernel
theorem dX6_drift_172 : decode cX6_drift 172 = .ok (.ireturn, 1) := by decide +kernel
theorem dX6_keep_0 : decode cX6_keep 0 = .ok (.iload_n 1, 1) := by decide +kernel
theorem dX6_keep_1 : decode cX6_keep 1 = .ok (.i2l, 1) := by decide +kernel
theorem dX6_keep_2 : decode cX6_keep 2 = .ok (.lconst 0, 1) := by decide +kernel
theorem dX6_keep_3 : decode cX6_keep 3 = .ok (.lconst 1, 1) := by decide +kernel
theorem dX6_keep_4 : decode cX6_keep 4 = .ok (.invokestatic 73, 3) := by decide +kernel
theorem dX6_keep_7 : decode cX6_keep 7 = .ok (.ifCond .ne 5, 3) := by decide +kernel
theorem dX6_keep_10 : decode cX6_keep 10 = .ok (.iconst (-1), 1) := by decide +kernel
theorem dX6_keep_11 : decode cX6_keep 11 = .ok (.ireturn, 1) := by decide +kernel
theorem dX6_keep_12 : decode cX6_keep 12 = .ok (.aload_n 0, 1) := by decide +kernel
theorem dX6_keep_13 : decode cX6_keep 13 = .ok (.iconst 0, 1) := by decide +kernel
theorem dX6_keep_14 : decode cX6_keep 14 = .ok (.bipush 72, 2) := by decide +kernel
theorem dX6_keep_16 : decode cX6_keep 16 = .ok (.iload_n 1, 1) := by decide +kernel
theorem dX6_keep_17 : decode cX6_keep 17 = .ok (.iconst 1, 1) := by decide +kernel
theorem dX6_keep_18 : decode cX6_keep 18 = .ok (.iadd, 1) := by decide +kernel
theorem dX6_keep_19 : decode cX6_keep 19 = .ok (.imul, 1) := by decide +kernel
theorem dX6_keep_20 : decode cX6_keep 20 = .ok (.invokevirtual 226, 3) := by decide +kernel
theorem dX6_keep_23 : decode cX6_keep 23 = .ok (.aload_n 0, 1) := by decide +kernel
theorem dX6_keep_24 : decode cX6_keep 24 = .ok (.getfield 58, 3) := by decide +kernel
theorem dX6_keep_27 : decode cX6_keep 27 = .ok (.iload_n 1, 1) := by decide +kernel
theorem dX6_keep_28 : decode cX6_keep 28 = .ok (.baload, 1) := by decide +kernel
theorem dX6_keep_29 : decode cX6_keep 29 = .ok (.ifCond .eq 7, 3) := by decide +kernel
theorem dX6_keep_32 : decode cX6_keep 32 = .ok (.iconst 1, 1) := by decide +kernel
theorem dX6_keep_33 : decode cX6_keep 33 = .ok (.goto 4, 3) := by decide +kernel
theorem dX6_keep_36 : decode cX6_keep 36 = .ok (.iconst 0, 1) := by decide +kernel
theorem dX6_keep_37 : decode cX6_keep 37 = .ok (.istore_n 2, 1) := by decide +kernel
theorem dX6_keep_38 : decode cX6_keep 38 = .ok (.aload_n 0, 1) := by decide +kernel
theorem dX6_keep_39 : decode cX6_keep 39 = .ok (.getfield 58, 3) := by decide +kernel
theorem dX6_keep_42 : decode cX6_keep 42 = .ok (.iload_n 1, 1) := by decide +kernel
theorem dX6_keep_43 : decode cX6_keep 43 = .ok (.iconst 1, 1) := by decide +kernel
theorem dX6_keep_44 : decode cX6_keep 44 = .ok (.bastore, 1) := by decide +kernel
theorem dX6_keep_45 : decode cX6_keep 45 = .ok (.iload_n 2, 1) := by decide +kernel
theorem dX6_keep_46 : decode cX6_keep 46 = .ok (.ireturn, 1) := by decide +kernel
theorem dX6_back_0 : decode cX6_back 0 = .ok (.iload_n 1, 1) := by decide +kernel
theorem dX6_back_1 : decode cX6_back 1 = .ok (.i2l, 1) := by decide +kernel
theorem dX6_back_2 : decode cX6_back 2 = .ok (.lconst 0, 1) := by decide +kernel
theorem dX6_back_3 : decode cX6_back 3 = .ok (.lconst 1, 1) := by decide +kernel
theorem dX6_back_4 : decode cX6_back 4 = .ok (.invokestatic 73, 3) := by decide +kernel
theorem dX6_back_7 : decode cX6_back 7 = .ok (.ifCond .ne 5, 3) := by decide +kernel
theorem dX6_back_10 : decode cX6_back 10 = .ok (.iconst (-1), 1) := by decide +kernel
theorem dX6_back_11 : decode cX6_back 11 = .ok (.ireturn, 1) := by decide +kernel
theorem dX6_back_12 : decode cX6_back 12 = .ok (.aload_n 0, 1) := by decide +kernel
theorem dX6_back_13 : decode cX6_back 13 = .ok (.getfield 58, 3) := by decide +kernel
theorem dX6_back_16 : decode cX6_back 16 = .ok (.iload_n 1, 1) := by decide +kernel
theorem dX6_back_17 : decode cX6_back 17 = .ok (.baload, 1) := by decide +kernel
theorem dX6_back_18 : decode cX6_back 18 = .ok (.ifCond .ne 6, 3) := by decide +kernel
theorem dX6_back_21 : decode cX6_back 21 = .ok (.bipush (-2), 2) := by decide +kernel
theorem dX6_back_23 : decode cX6_back 23 = .ok (.ireturn, 1) := by decide +kernel
theorem dX6_back_24 : decode cX6_back 24 = .ok (.aload_n 0, 1) := by decide +kernel
theorem dX6_back_25 : decode cX6_back 25 = .ok (.bipush 72, 2) := by decide +kernel
theorem dX6_back_27 : decode cX6_back 27 = .ok (.iload_n 1, 1) := by decide +kernel
theorem dX6_back_28 : decode cX6_back 28 = .ok (.iconst 1, 1) := by decide +kernel
theorem dX6_back_29 : decode cX6_back 29 = .ok (.iadd, 1) := by decide +kernel
theorem dX6_back_30 : decode cX6_back 30 = .ok (.imul, 1) := by decide +kernel
theorem dX6_back_31 : decode cX6_back 31 = .ok (.iconst 0, 1) := by decide +kernel
theorem dX6_back_32 : decode cX6_back 32 = .ok (.invokevirtual 226, 3) := by decide +kernel
theorem dX6_back_35 : decode cX6_back 35 = .ok (.aload_n 0, 1) := by decide +kernel
theorem dX6_back_36 : decode cX6_back 36 = .ok (.invokevirtual 164, 3) := by decide +kernel
theorem dX6_back_39 : decode cX6_back 39 = .ok (.ireturn, 1) := by decide +kernel
theorem dX6_sheet_0 : decode cX6_sheet 0 = .ok (.iload_n 1, 1) := by decide +kernel
theorem dX6_sheet_1 : decode cX6_sheet 1 = .ok (.i2l, 1) := by decide +kernel
theorem dX6_sheet_2 : decode cX6_sheet 2 = .ok (.lconst 0, 1) := by decide +kernel
theorem dX6_sheet_3 : decode cX6_sheet 3 = .ok (.ldc2_w 182, 3) := by decide +kernel
theorem dX6_sheet_6 : decode cX6_sheet 6 = .ok (.invokestatic 73, 3) := by decide +kernel
theorem dX6_sheet_9 : decode cX6_sheet 9 = .ok (.ifCond .eq 21, 3) := by decide +kernel
theorem dX6_sheet_12 : decode cX6_sheet 12 = .ok (.iload_n 2, 1) := by decide +kernel
theorem dX6_sheet_13 : decode cX6_sheet 13 = .ok (.i2l, 1) := by decide +kernel
theorem dX6_sheet_14 : decode cX6_sheet 14 = .ok (.lconst 0, 1) := by decide +kernel
theorem dX6_sheet_15 : decode cX6_sheet 15 = .ok (.ldc2_w 218, 3) := by decide +kernel
theorem dX6_sheet_18 : decode cX6_sheet 18 = .ok (.invokestatic 73, 3) := by decide +kernel
theorem dX6_sheet_21 : decode cX6_sheet 21 = .ok (.ifCond .eq 9, 3) := by decide +kernel
theorem dX6_sheet_24 : decode cX6_sheet 24 = .ok (.iload_n 3, 1) := by decide +kernel
theorem dX6_sheet_25 : decode cX6_sheet 25 = .ok (.bipush 40, 2) := by decide +kernel
theorem dX6_sheet_27 : decode cX6_sheet 27 = .ok (.if_icmp .le 5, 3) := by decide +kernel
theorem dX6_sheet_30 : decode cX6_sheet 30 = .ok (.iconst (-1), 1) := by decide +kernel
theorem dX6_sheet_31 : decode cX6_sheet 31 = .ok (.ireturn, 1) := by decide +kernel
theorem dX6_sheet_32 : decode cX6_sheet 32 = .ok (.iload_n 3, 1) := by decide +kernel
theorem dX6_sheet_33 : decode cX6_sheet 33 = .ok (.ifCond .ge 6, 3) := by decide +kernel
theorem dX6_sheet_36 : decode cX6_sheet 36 = .ok (.bipush (-14), 2) := by decide +kernel
theorem dX6_sheet_38 : decode cX6_sheet 38 = .ok (.ireturn, 1) := by decide +kernel
theorem dX6_sheet_39 : decode cX6_sheet 39 = .ok (.aload_n 0, 1) := by decide +kernel
theorem dX6_sheet_40 : decode cX6_sheet 40 = .ok (.getfield 62, 3) := by decide +kernel
theorem dX6_sheet_43 : decode cX6_sheet 43 = .ok (.iload_n 1, 1) := by decide +kernel
theorem dX6_sheet_44 : decode cX6_sheet 44 = .ok (.iload_n 2, 1) := by decide +kernel
theorem dX6_sheet_45 : decode cX6_sheet 45 = .ok (.iastore, 1) := by decide +kernel
theorem dX6_sheet_46 : decode cX6_sheet 46 = .ok (.aload_n 0, 1) := by decide +kernel
theorem dX6_sheet_47 : decode cX6_sheet 47 = .ok (.getfield 65, 3) := by decide +kernel
theorem dX6_sheet_50 : decode cX6_sheet 50 = .ok (.iload_n 1, 1) := by decide +kernel
theorem dX6_sheet_51 : decode cX6_sheet 51 = .ok (.iload_n 3, 1) := by decide +kernel
theorem dX6_sheet_52 : decode cX6_sheet 52 = .ok (.iastore, 1) := by decide +kernel
theorem dX6_sheet_53 : decode cX6_sheet 53 = .ok (.iconst 0, 1) := by decide +kernel
theorem dX6_sheet_54 : decode cX6_sheet 54 = .ok (.istore 4, 2) := by decide +kernel
theorem dX6_sheet_56 : decode cX6_sheet 56 = .ok (.iload 4, 2) := by decide +kernel
theorem dX6_sheet_58 : decode cX6_sheet 58 = .ok (.bipush 40, 2) := by decide +kernel
theorem dX6_sheet_60 : decode cX6_sheet 60 = .ok (.if_icmp .ge 22, 3) := by decide +kernel
theorem dX6_sheet_63 : decode cX6_sheet 63 = .ok (.aload_n 0, 1) := by decide +kernel
theorem dX6_sheet_64 : decode cX6_sheet 64 = .ok (.getfield 68, 3) := by decide +kernel
theorem dX6_sheet_67 : decode cX6_sheet 67 = .ok (.bipush 40, 2) := by decide +kernel
theorem dX6_sheet_69 : decode cX6_sheet 69 = .ok (.iload_n 1, 1) := by decide +kernel
theorem dX6_sheet_70 : decode cX6_sheet 70 = .ok (.imul, 1) := by decide +kernel
theorem dX6_sheet_71 : decode cX6_sheet 71 = .ok (.iload 4, 2) := by decide +kernel
theorem dX6_sheet_73 : decode cX6_sheet 73 = .ok (.iadd, 1) := by decide +kernel
theorem dX6_sheet_74 : decode cX6_sheet 74 = .ok (.iconst 0, 1) := by decide +kernel
theorem dX6_sheet_75 : decode cX6_sheet 75 = .ok (.iastore, 1) := by decide +kernel
theorem dX6_sheet_76 : decode cX6_sheet 76 = .ok (.iinc 4 1, 3) := by decide +kernel
theorem dX6_sheet_79 : decode cX6_sheet 79 = .ok (.goto (-23), 3) := by decide +kernel
theorem dX6_sheet_82 : decode cX6_sheet 82 = .ok (.iconst 1, 1) := by decide +kernel
theorem dX6_sheet_83 : decode cX6_sheet 83 = .ok (.ireturn, 1) := by decide +kernel
theorem dX6_lay_0 : decode cX6_lay 0 = .ok (.iload_n 1, 1) := by decide +kernel
theorem dX6_lay_1 : decode cX6_lay 1 = .ok (.i2l, 1) := by decide +kernel
theorem dX6_lay_2 : decode cX6_lay 2 = .ok (.lconst 0, 1) := by decide +kernel
theorem dX6_lay_3 : decode cX6_lay 3 = .ok (.ldc2_w 182, 3) := by decide +kernel
theorem dX6_lay_6 : decode cX6_lay 6 = .ok (.invokestatic 73, 3) := by decide +kernel
theorem dX6_lay_9 : decode cX6_lay 9 = .ok (.ifCond .ne 5, 3) := by decide +kernel
theorem dX6_lay_12 : decode cX6_lay 12 = .ok (.iconst (-1), 1) := by decide +kernel
theorem dX6_lay_13 : decode cX6_lay 13 = .ok (.ireturn, 1) := by decide +kernel
theorem dX6_lay_14 : decode cX6_lay 14 = .ok (.aload_n 0, 1) := by decide +kernel
theorem dX6_lay_15 : decode cX6_lay 15 = .ok (.getfield 62, 3) := by decide +kernel
theorem dX6_lay_18 : decode cX6_lay 18 = .ok (.iload_n 1, 1) := by decide +kernel
theorem dX6_lay_19 : decode cX6_lay 19 = .ok (.iaload, 1) := by decide +kernel
theorem dX6_lay_20 : decode cX6_lay 20 = .ok (.bipush (-4), 2) := by decide +kernel
theorem dX6_lay_22 : decode cX6_lay 22 = .ok (.if_icmp .ne 6, 3) := by decide +kernel
theorem dX6_lay_25 : decode cX6_lay 25 = .ok (.bipush (-11), 2) := by decide +kernel
theorem dX6_lay_27 : decode cX6_lay 27 = .ok (.ireturn, 1) := by decide +kernel
theorem dX6_lay_28 : decode cX6_lay 28 = .ok (.iload_n 2, 1) := by decide +kernel
theorem dX6_lay_29 : decode cX6_lay 29 = .ok (.i2l, 1) := by decide +kernel
theorem dX6_lay_30 : decode cX6_lay 30 = .ok (.lconst 0, 1) := by decide +kernel
theorem dX6_lay_31 : decode cX6_lay 31 = .ok (.aload_n 0, 1) := by decide +kernel
theorem dX6_lay_32 : decode cX6_lay 32 = .ok (.getfield 65, 3) := by decide +kernel
theorem dX6_lay_35 : decode cX6_lay 35 = .ok (.iload_n 1, 1) := by decide +kernel
theorem dX6_lay_36 : decode cX6_lay 36 = .ok (.iaload, 1) := by decide +kernel
theorem dX6_lay_37 : decode cX6_lay 37 = .ok (.iconst 1, 1) := by decide +kernel
theorem dX6_lay_38 : decode cX6_lay 38 = .ok (.isub, 1) := by decide +kernel
theorem dX6_lay_39 : decode cX6_lay 39 = .ok (.i2l, 1) := by decide +kernel
theorem dX6_lay_40 : decode cX6_lay 40 = .ok (.invokestatic 73, 3) := by decide +kernel
theorem dX6_lay_43 : decode cX6_lay 43 = .ok (.ifCond .ne 6, 3) := by decide +kernel
theorem dX6_lay_46 : decode cX6_lay 46 = .ok (.bipush (-12), 2) := by decide +kernel
theorem dX6_lay_48 : decode cX6_lay 48 = .ok (.ireturn, 1) := by decide +kernel
theorem dX6_lay_49 : decode cX6_lay 49 = .ok (.aload_n 0, 1) := by decide +kernel
theorem dX6_lay_50 : decode cX6_lay 50 = .ok (.getfield 68, 3) := by decide +kernel
theorem dX6_lay_53 : decode cX6_lay 53 = .ok (.bipush 40, 2) := by decide +kernel
theorem dX6_lay_55 : decode cX6_lay 55 = .ok (.iload_n 1, 1) := by decide +kernel
theorem dX6_lay_56 : decode cX6_lay 56 = .ok (.imul, 1) := by decide +kernel
theorem dX6_lay_57 : decode cX6_lay 57 = .ok (.iload_n 2, 1) := by decide +kernel
theorem dX6_lay_58 : decode cX6_lay 58 = .ok (.iadd, 1) := by decide +kernel
theorem dX6_lay_59 : decode cX6_lay 59 = .ok (.aload_n 0, 1) := by decide +kernel
theorem dX6_lay_60 : decode cX6_lay 60 = .ok (.getfield 62, 3) := by decide +kernel
theorem dX6_lay_63 : decode cX6_lay 63 = .ok (.iload_n 1, 1) := by decide +kernel
theorem dX6_lay_64 : decode cX6_lay 64 = .ok (.iaload, 1) := by decide +kernel
theorem dX6_lay_65 : decode cX6_lay 65 = .ok (.ifCond .ne 13, 3) := by decide +kernel
theorem dX6_lay_68 : decode cX6_lay 68 = .ok (.iload_n 3, 1) := by decide +kernel
theorem dX6_lay_69 : decode cX6_lay 69 = .ok (.bipush 24, 2) := by decide +kernel
theorem dX6_lay_71 : decode cX6_lay 71 = .ok (.ishl, 1) := by decide +kernel
theorem dX6_lay_72 : decode cX6_lay 72 = .ok (.bipush 24, 2) := by decide +kernel
theorem dX6_lay_74 : decode cX6_lay 74 = .ok (.ishr, 1) := by decide +kernel
theorem dX6_lay_75 : decode cX6_lay 75 = .ok (.goto 24, 3) := by decide +kernel
theorem dX6_lay_78 : decode cX6_lay 78 = .ok (.aload_n 0, 1) := by decide +kernel
theorem dX6_lay_79 : decode cX6_lay 79 = .ok (.getfield 62, 3) := by decide +kernel
theorem dX6_lay_82 : decode cX6_lay 82 = .ok (.iload_n 1, 1) := by decide +kernel
theorem dX6_lay_83 : decode cX6_lay 83 = .ok (.iaload, 1) := by decide +kernel
theorem dX6_lay_84 : decode cX6_lay 84 = .ok (.iconst 1, 1) := by decide +kernel
theorem dX6_lay_85 : decode cX6_lay 85 = .ok (.if_icmp .ne 13, 3) := by decide +kernel
theorem dX6_lay_88 : decode cX6_lay 88 = .ok (.iload_n 3, 1) := by decide +kernel
theorem dX6_lay_89 : decode cX6_lay 89 = .ok (.bipush 16, 2) := by decide +kernel
theorem dX6_lay_91 : decode cX6_lay 91 = .ok (.ishl, 1) := by decide +kernel
theorem dX6_lay_92 : decode cX6_lay 92 = .ok (.bipush 16, 2) := by decide +kernel
theorem dX6_lay_94 : decode cX6_lay 94 = .ok (.ishr, 1) := by decide +kernel
theorem dX6_lay_95 : decode cX6_lay 95 = .ok (.goto 4, 3) := by decide +kernel
theorem dX6_lay_98 : decode cX6_lay 98 = .ok (.iload_n 3, 1) := by decide +kernel
theorem dX6_lay_99 : decode cX6_lay 99 = .ok (.iastore, 1) := by decide +kernel
theorem dX6_lay_100 : decode cX6_lay 100 = .ok (.iconst 1, 1) := by decide +kernel
theorem dX6_lay_101 : decode cX6_lay 101 = .ok (.ireturn, 1) := by decide +kernel
theorem dX6_read_0 : decode cX6_read 0 = .ok (.iload_n 1, 1) := by decide +kernel
theorem dX6_read_1 : decode cX6_read 1 = .ok (.i2l, 1) := by decide +kernel
theorem dX6_read_2 : decode cX6_read 2 = .ok (.lconst 0, 1) := by decide +kernel
theorem dX6_read_3 : decode cX6_read 3 = .ok (.ldc2_w 182, 3) := by decide +kernel
theorem dX6_read_6 : decode cX6_read 6 = .ok (.invokestatic 73, 3) := by decide +kernel
theorem dX6_read_9 : decode cX6_read 9 = .ok (.ifCond .eq 28, 3) := by decide +kernel
theorem dX6_read_12 : decode cX6_read 12 = .ok (.iload_n 2, 1) := by decide +kernel
theorem dX6_read_13 : decode cX6_read 13 = .ok (.i2l, 1) := by decide +kernel
theorem dX6_read_14 : decode cX6_read 14 = .ok (.lconst 0, 1) := by decide +kernel
theorem dX6_read_15 : decode cX6_read 15 = .ok (.ldc2_w 218, 3) := by decide +kernel
theorem dX6_read_18 : decode cX6_read 18 = .ok (.invokestatic 73, 3) := by decide +kernel
theorem dX6_read_21 : decode cX6_read 21 = .ok (.ifCond .eq 16, 3) := by decide +kernel
theorem dX6_read_24 : decode cX6_read 24 = .ok (.iload 4, 2) := by decide +kernel
theorem dX6_read_26 : decode cX6_read 26 = .ok (.i2l, 1) := by decide +kernel
theorem dX6_read_27 : decode cX6_read 27 = .ok (.lconst 0, 1) := by decide +kernel
theorem dX6_read_28 : decode cX6_read 28 = .ok (.ldc2_w 264, 3) := by decide +kernel
theorem dX6_read_31 : decode cX6_read 31 = .ok (.invokestatic 73, 3) := by decide +kernel
theorem dX6_read_34 : decode cX6_read 34 = .ok (.ifCond .ne 5, 3) := by decide +kernel
theorem dX6_read_37 : decode cX6_read 37 = .ok (.iconst (-1), 1) := by decide +kernel
theorem dX6_read_38 : decode cX6_read 38 = .ok (.ireturn, 1) := by decide +kernel
theorem dX6_read_39 : decode cX6_read 39 = .ok (.aload_n 0, 1) := by decide +kernel
theorem dX6_read_40 : decode cX6_read 40 = .ok (.iconst 0, 1) := by decide +kernel
theorem dX6_read_41 : decode cX6_read 41 = .ok (.sipush 216, 3) := by decide +kernel
theorem dX6_read_44 : decode cX6_read 44 = .ok (.invokevirtual 226, 3) := by decide +kernel
theorem dX6_read_47 : decode cX6_read 47 = .ok (.iconst 0, 1) := by decide +kernel
theorem dX6_read_48 : decode cX6_read 48 = .ok (.istore 5, 2) := by decide +kernel
theorem dX6_read_50 : decode cX6_read 50 = .ok (.iconst 0, 1) := by decide +kernel
theorem dX6_read_51 : decode cX6_read 51 = .ok (.istore 6, 2) := by decide +kernel
theorem dX6_read_53 : decode cX6_read 53 = .ok (.iconst 0, 1) := by decide +kernel
theorem dX6_read_54 : decode cX6_read 54 = .ok (.istore 7, 2) := by decide +kernel
theorem dX6_read_56 : decode cX6_read 56 = .ok (.iload 7, 2) := by decide +kernel
theorem dX6_read_58 : decode cX6_read 58 = .ok (.iconst 3, 1) := by decide +kernel
theorem dX6_read_59 : decode cX6_read 59 = .ok (.iload 4, 2) := by decide +kernel
theorem dX6_read_61 : decode cX6_read 61 = .ok (.imul, 1) := by decide +kernel
theorem dX6_read_62 : decode cX6_read 62 = .ok (.if_icmp .ge 145, 3) := by decide +kernel
theorem dX6_read_65 : decode cX6_read 65 = .ok (.iload 5, 2) := by decide +kernel
theorem dX6_read_67 : decode cX6_read 67 = .ok (.ifCond .ne 140, 3) := by decide +kernel
theorem dX6_read_70 : decode cX6_read 70 = .ok (.aload_n 0, 1) := by decide +kernel
theorem dX6_read_71 : decode cX6_read 71 = .ok (.getfield 62, 3) := by decide +kernel
theorem dX6_read_74 : decode cX6_read 74 = .ok (.iload_n 1, 1) := by decide +kernel
theorem dX6_read_75 : decode cX6_read 75 = .ok (.iaload, 1) := by decide +kernel
theorem dX6_read_76 : decode cX6_read 76 = .ok (.bipush (-4), 2) := by decide +kernel
theorem dX6_read_78 : decode cX6_read 78 = .ok (.if_icmp .ne 7, 3) := by decide +kernel
theorem dX6_read_81 : decode cX6_read 81 = .ok (.iconst 1, 1) := by decide +kernel
theorem dX6_read_82 : decode cX6_read 82 = .ok (.goto 44, 3) := by decide +kernel
theorem dX6_read_85 : decode cX6_read 85 = .ok (.aload_n 0, 1) := by decide +kernel
theorem dX6_read_86 : decode cX6_read 86 = .ok (.getfield 62, 3) := by decide +kernel
theorem dX6_read_89 : decode cX6_read 89 = .ok (.iload_n 1, 1) := by decide +kernel
theorem dX6_read_90 : decode cX6_read 90 = .ok (.iaload, 1) := by decide +kernel
theorem dX6_read_91 : decode cX6_read 91 = .ok (.iload_n 2, 1) := by decide +kernel
theorem dX6_read_92 : decode cX6_read 92 = .ok (.if_icmp .eq 7, 3) := by decide +kernel
theorem dX6_read_95 : decode cX6_read 95 = .ok (.iconst 3, 1) := by decide +kernel
theorem dX6_read_96 : decode cX6_read 96 = .ok (.goto 30, 3) := by decide +kernel
theorem dX6_read_99 : decode cX6_read 99 = .ok (.iload_n 3, 1) := by decide +kernel
theorem dX6_read_100 : decode cX6_read 100 = .ok (.i2l, 1) := by decide +kernel
theorem dX6_read_101 : decode cX6_read 101 = .ok (.iload 7, 2) := by decide +kernel
theorem dX6_read_103 : decode cX6_read 103 = .ok (.i2l, 1) := by decide +kernel
theorem dX6_read_104 : decode cX6_read 104 = .ok (.ladd, 1) := by decide +kernel
theorem dX6_read_105 : decode cX6_read 105 = .ok (.lconst 0, 1) := by decide +kernel
theorem dX6_read_106 : decode cX6_read 106 = .ok (.aload_n 0, 1) := by decide +kernel
theorem dX6_read_107 : decode cX6_read 107 = .ok (.getfield 65, 3) := by decide +kernel
theorem dX6_read_110 : decode cX6_read 110 = .ok (.iload_n 1, 1) := by decide +kernel
theorem dX6_read_111 : decode cX6_read 111 = .ok (.iaload, 1) := by decide +kernel
theorem dX6_read_112 : decode cX6_read 112 = .ok (.iconst 1, 1) := by decide +kernel
theorem dX6_read_113 : decode cX6_read 113 = .ok (.isub, 1) := by decide +kernel
theorem dX6_read_114 : decode cX6_read 114 = .ok (.i2l, 1) := by decide +kernel
theorem dX6_read_115 : decode cX6_read 115 = .ok (.invokestatic 73, 3) := by decide +kernel
theorem dX6_read_118 : decode cX6_read 118 = .ok (.ifCond .ne 7, 3) := by decide +kernel
theorem dX6_read_121 : decode cX6_read 121 = .ok (.iconst 2, 1) := by decide +kernel
theorem dX6_read_122 : decode cX6_read 122 = .ok (.goto 4, 3) := by decide +kernel
theorem dX6_read_125 : decode cX6_read 125 = .ok (.iconst 0, 1) := by decide +kernel
theorem dX6_read_126 : decode cX6_read 126 = .ok (.istore 5, 2) := by decide +kernel
theorem dX6_read_128 : decode cX6_read 128 = .ok (.iload 5, 2) := by decide +kernel
theorem dX6_read_130 : decode cX6_read 130 = .ok (.ifCond .ne 71, 3) := by decide +kernel
theorem dX6_read_133 : decode cX6_read 133 = .ok (.iload 7, 2) := by decide +kernel
theorem dX6_read_135 : decode cX6_read 135 = .ok (.iconst 3, 1) := by decide +kernel
theorem dX6_read_136 : decode cX6_read 136 = .ok (.irem, 1) := by decide +kernel
theorem dX6_read_137 : decode cX6_read 137 = .ok (.iconst 2, 1) := by decide +kernel
theorem dX6_read_138 : decode cX6_read 138 = .ok (.if_icmp .ne 63, 3) := by decide +kernel
theorem dX6_read_141 : decode cX6_read 141 = .ok (.bipush 40, 2) := by decide +kernel
theorem dX6_read_143 : decode cX6_read 143 = .ok (.iload_n 1, 1) := by decide +kernel
theorem dX6_read_144 : decode cX6_read 144 = .ok (.imul, 1) := by decide +kernel
theorem dX6_read_145 : decode cX6_read 145 = .ok (.iload_n 3, 1) := by decide +kernel
theorem dX6_read_146 : decode cX6_read 146 = .ok (.iadd, 1) := by decide +kernel
theorem dX6_read_147 : decode cX6_read 147 = .ok (.iload 7, 2) := by decide +kernel
theorem dX6_read_149 : decode cX6_read 149 = .ok (.iadd, 1) := by decide +kernel
theorem dX6_read_150 : decode cX6_read 150 = .ok (.istore 8, 2) := by decide +kernel
theorem dX6_read_152 : decode cX6_read 152 = .ok (.aload_n 0, 1) := by decide +kernel
theorem dX6_read_153 : decode cX6_read 153 = .ok (.aload_n 0, 1) := by decide +kernel
theorem dX6_read_154 : decode cX6_read 154 = .ok (.getfield 68, 3) := by decide +kernel
theorem dX6_read_157 : decode cX6_read 157 = .ok (.iload 8, 2) := by decide +kernel
theorem dX6_read_159 : decode cX6_read 159 = .ok (.iconst 2, 1) := by decide +kernel
theorem dX6_read_160 : decode cX6_read 160 = .ok (.isub, 1) := by decide +kernel
theorem dX6_read_161 : decode cX6_read 161 = .ok (.iaload, 1) := by decide +kernel
theorem dX6_read_162 : decode cX6_read 162 = .ok (.aload_n 0, 1) := by decide +kernel
theorem dX6_read_163 : decode cX6_read 163 = .ok (.getfield 68, 3) := by decide +kernel
theorem dX6_read_166 : decode cX6_read 166 = .ok (.iload 8, 2) := by decide +kernel
theorem dX6_read_168 : decode cX6_read 168 = .ok (.iconst 1, 1) := by decide +kernel
theorem dX6_read_169 : decode cX6_read 169 = .ok (.isub, 1) := by decide +kernel
theorem dX6_read_170 : decode cX6_read 170 = .ok (.iaload, 1) := by decide +kernel
theorem dX6_read_171 : decode cX6_read 171 = .ok (.aload_n 0, 1) := by decide +kernel
theorem dX6_read_172 : decode cX6_read 172 = .ok (.getfield 68, 3) := by decide +kernel
theorem dX6_read_175 : decode cX6_read 175 = .ok (.iload 8, 2) := by decide +kernel
theorem dX6_read_177 : decode cX6_read 177 = .ok (.iaload, 1) := by decide +kernel
theorem dX6_read_178 : decode cX6_read 178 = .ok (.invokevirtual 195, 3) := by decide +kernel
theorem dX6_read_181 : decode cX6_read 181 = .ok (.ifCond .ge 17, 3) := by decide +kernel
theorem dX6_read_184 : decode cX6_read 184 = .ok (.aload_n 0, 1) := by decide +kernel
theorem dX6_read_185 : decode cX6_read 185 = .ok (.sipush 216, 3) := by decide +kernel
theorem dX6_read_188 : decode cX6_read 188 = .ok (.iconst 0, 1) := by decide +kernel
theorem dX6_read_189 : decode cX6_read 189 = .ok (.invokevirtual 226, 3) := by decide +kernel
theorem dX6_read_192 : decode cX6_read 192 = .ok (.bipush (-20), 2) := by decide +kernel
theorem dX6_read_194 : decode cX6_read 194 = .ok (.iload 6, 2) := by decide +kernel
theorem dX6_read_196 : decode cX6_read 196 = .ok (.isub, 1) := by decide +kernel
theorem dX6_read_197 : decode cX6_read 197 = .ok (.ireturn, 1) := by decide +kernel
theorem dX6_read_198 : decode cX6_read 198 = .ok (.iinc 6 1, 3) := by decide +kernel
theorem dX6_read_201 : decode cX6_read 201 = .ok (.iinc 7 1, 3) := by decide +kernel
theorem dX6_read_204 : decode cX6_read 204 = .ok (.goto (-148), 3) := by decide +kernel
theorem dX6_read_207 : decode cX6_read 207 = .ok (.aload_n 0, 1) := by decide +kernel
theorem dX6_read_208 : decode cX6_read 208 = .ok (.iload 5, 2) := by decide +kernel
theorem dX6_read_210 : decode cX6_read 210 = .ok (.putfield 266, 3) := by decide +kernel
theorem dX6_read_213 : decode cX6_read 213 = .ok (.iload 6, 2) := by decide +kernel
theorem dX6_read_215 : decode cX6_read 215 = .ok (.ireturn, 1) := by decide +kernel
theorem dX6_torn_0 : decode cX6_torn 0 = .ok (.aload_n 0, 1) := by decide +kernel
theorem dX6_torn_1 : decode cX6_torn 1 = .ok (.getfield 266, 3) := by decide +kernel
theorem dX6_torn_4 : decode cX6_torn 4 = .ok (.ireturn, 1) := by decide +kernel
theorem dX6_count_0 : decode cX6_count 0 = .ok (.iconst 0, 1) := by decide +kernel
theorem dX6_count_1 : decode cX6_count 1 = .ok (.istore_n 2, 1) := by decide +kernel
theorem dX6_count_2 : decode cX6_count 2 = .ok (.iconst 0, 1) := by decide +kernel
theorem dX6_count_3 : decode cX6_count 3 = .ok (.istore_n 3, 1) := by decide +kernel
theorem dX6_count_4 : decode cX6_count 4 = .ok (.iconst 0, 1) := by decide +kernel
theorem dX6_count_5 : decode cX6_count 5 = .ok (.istore 4, 2) := by decide +kernel
theorem dX6_count_7 : decode cX6_count 7 = .ok (.iload 4, 2) := by decide +kernel
theorem dX6_count_9 : decode cX6_count 9 = .ok (.aload_n 0, 1) := by decide +kernel
theorem dX6_count_10 : decode cX6_count 10 = .ok (.getfield 156, 3) := by decide +kernel
theorem dX6_count_13 : decode cX6_count 13 = .ok (.if_icmp .ge 26, 3) := by decide +kernel
theorem dX6_count_16 : decode cX6_count 16 = .ok (.iload_n 2, 1) := by decide +kernel
theorem dX6_count_17 : decode cX6_count 17 = .ok (.aload_n 0, 1) := by decide +kernel
theorem dX6_count_18 : decode cX6_count 18 = .ok (.getfield 7, 3) := by decide +kernel
theorem dX6_count_21 : decode cX6_count 21 = .ok (.bipush 21, 2) := by decide +kernel
theorem dX6_count_23 : decode cX6_count 23 = .ok (.iconst 4, 1) := by decide +kernel
theorem dX6_count_24 : decode cX6_count 24 = .ok (.iload 4, 2) := by decide +kernel
theorem dX6_count_26 : decode cX6_count 26 = .ok (.imul, 1) := by decide +kernel
theorem dX6_count_27 : decode cX6_count 27 = .ok (.iadd, 1) := by decide +kernel
theorem dX6_count_28 : decode cX6_count 28 = .ok (.iconst 3, 1) := by decide +kernel
theorem dX6_count_29 : decode cX6_count 29 = .ok (.iadd, 1) := by decide +kernel
theorem dX6_count_30 : decode cX6_count 30 = .ok (.iaload, 1) := by decide +kernel
theorem dX6_count_31 : decode cX6_count 31 = .ok (.iadd, 1) := by decide +kernel
theorem dX6_count_32 : decode cX6_count 32 = .ok (.istore_n 2, 1) := by decide +kernel
theorem dX6_count_33 : decode cX6_count 33 = .ok (.iinc 4 1, 3) := by decide +kernel
theorem dX6_count_36 : decode cX6_count 36 = .ok (.goto (-29), 3) := by decide +kernel
theorem dX6_count_39 : decode cX6_count 39 = .ok (.iconst 0, 1) := by decide +kernel
theorem dX6_count_40 : decode cX6_count 40 = .ok (.istore 4, 2) := by decide +kernel
theorem dX6_count_42 : decode cX6_count 42 = .ok (.iload 4, 2) := by decide +kernel
theorem dX6_count_44 : decode cX6_count 44 = .ok (.bipush 10, 2) := by decide +kernel
theorem dX6_count_46 : decode cX6_count 46 = .ok (.if_icmp .ge 30, 3) := by decide +kernel
theorem dX6_count_49 : decode cX6_count 49 = .ok (.iload_n 3, 1) := by decide +kernel
theorem dX6_count_50 : decode cX6_count 50 = .ok (.aload_n 0, 1) := by decide +kernel
theorem dX6_count_51 : decode cX6_count 51 = .ok (.getfield 7, 3) := by decide +kernel
theorem dX6_count_54 : decode cX6_count 54 = .ok (.bipush 37, 2) := by decide +kernel
theorem dX6_count_56 : decode cX6_count 56 = .ok (.iload 4, 2) := by decide +kernel
theorem dX6_count_58 : decode cX6_count 58 = .ok (.iadd, 1) := by decide +kernel
theorem dX6_count_59 : decode cX6_count 59 = .ok (.iaload, 1) := by decide +kernel
theorem dX6_count_60 : decode cX6_count 60 = .ok (.ifCond .eq 7, 3) := by decide +kernel
theorem dX6_count_63 : decode cX6_count 63 = .ok (.iconst 1, 1) := by decide +kernel
theorem dX6_count_64 : decode cX6_count 64 = .ok (.goto 4, 3) := by decide +kernel
theorem dX6_count_67 : decode cX6_count 67 = .ok (.iconst 0, 1) := by decide +kernel
theorem dX6_count_68 : decode cX6_count 68 = .ok (.iadd, 1) := by decide +kernel
theorem dX6_count_69 : decode cX6_count 69 = .ok (.istore_n 3, 1) := by decide +kernel
theorem dX6_count_70 : decode cX6_count 70 = .ok (.iinc 4 1, 3) := by decide +kernel
theorem dX6_count_73 : decode cX6_count 73 = .ok (.goto (-31), 3) := by decide +kernel
theorem dX6_count_76 : decode cX6_count 76 = .ok (.iload_n 1, 1) := by decide +kernel
theorem dX6_count_77 : decode cX6_count 77 = .ok (.tableswitch 106 0 5 #[39, 44, 74, 79, 102, 104], 39) := by decide +kernel
theorem dX6_count_116 : decode cX6_count 116 = .ok (.aload_n 0, 1) := by decide +kernel
theorem dX6_count_117 : decode cX6_count 117 = .ok (.getfield 159, 3) := by decide +kernel
theorem dX6_count_120 : decode cX6_count 120 = .ok (.ireturn, 1) := by decide +kernel
theorem dX6_count_121 : decode cX6_count 121 = .ok (.aload_n 0, 1) := by decide +kernel
theorem dX6_count_122 : decode cX6_count 122 = .ok (.getfield 58, 3) := by decide +kernel
theorem dX6_count_125 : decode cX6_count 125 = .ok (.iconst 0, 1) := by decide +kernel
theorem dX6_count_126 : decode cX6_count 126 = .ok (.baload, 1) := by decide +kernel
theorem dX6_count_127 : decode cX6_count 127 = .ok (.ifCond .eq 7, 3) := by decide +kernel
theorem dX6_count_130 : decode cX6_count 130 = .ok (.iconst 1, 1) := by decide +kernel
theorem dX6_count_131 : decode cX6_count 131 = .ok (.goto 4, 3) := by decide +kernel
theorem dX6_count_134 : decode cX6_count 134 = .ok (.iconst 0, 1) := by decide +kernel
theorem dX6_count_135 : decode cX6_count 135 = .ok (.aload_n 0, 1) := by decide +kernel
theorem dX6_count_136 : decode cX6_count 136 = .ok (.getfield 58, 3) := by decide +kernel
theorem dX6_count_139 : decode cX6_count 139 = .ok (.iconst 1, 1) := by decide +kernel
theorem dX6_count_140 : decode cX6_count 140 = .ok (.baload, 1) := by decide +kernel
theorem dX6_count_141 : decode cX6_count 141 = .ok (.ifCond .eq 7, 3) := by decide +kernel
theorem dX6_count_144 : decode cX6_count 144 = .ok (.iconst 1, 1) := by decide +kernel
theorem dX6_count_145 : decode cX6_count 145 = .ok (.goto 4, 3) := by decide +kernel
theorem dX6_count_148 : decode cX6_count 148 = .ok (.iconst 0, 1) := by decide +kernel
theorem dX6_count_149 : decode cX6_count 149 = .ok (.iadd, 1) := by decide +kernel
theorem dX6_count_150 : decode cX6_count 150 = .ok (.ireturn, 1) := by decide +kernel
theorem dX6_count_151 : decode cX6_count 151 = .ok (.aload_n 0, 1) := by decide +kernel
theorem dX6_count_152 : decode cX6_count 152 = .ok (.getfield 77, 3) := by decide +kernel
theorem dX6_count_155 : decode cX6_count 155 = .ok (.ireturn, 1) := by decide +kernel
theorem dX6_count_156 : decode cX6_count 156 = .ok (.aload_n 0, 1) := by decide +kernel
theorem dX6_count_157 : decode cX6_count 157 = .ok (.getfield 62, 3) := by decide +kernel
theorem dX6_count_160 : decode cX6_count 160 = .ok (.iconst 0, 1) := by decide +kernel
theorem dX6_count_161 : decode cX6_count 161 = .ok (.iaload, 1) := by decide +kernel
theorem dX6_count_162 : decode cX6_count 162 = .ok (.bipush (-4), 2) := by decide +kernel
theorem dX6_count_164 : decode cX6_count 164 = .ok (.if_icmp .ne 8, 3) := by decide +kernel
theorem dX6_count_167 : decode cX6_count 167 = .ok (.bipush (-4), 2) := by decide +kernel
theorem dX6_count_169 : decode cX6_count 169 = .ok (.goto 9, 3) := by decide +kernel
theorem dX6_count_172 : decode cX6_count 172 = .ok (.aload_n 0, 1) := by decide +kernel
theorem dX6_count_173 : decode cX6_count 173 = .ok (.getfield 65, 3) := by decide +kernel
theorem dX6_count_176 : decode cX6_count 176 = .ok (.iconst 0, 1) := by decide +kernel
theorem dX6_count_177 : decode cX6_count 177 = .ok (.iaload, 1) := by decide +kernel
theorem dX6_count_178 : decode cX6_count 178 = .ok (.ireturn, 1) := by decide +kernel
theorem dX6_count_179 : decode cX6_count 179 = .ok (.iload_n 2, 1) := by decide +kernel
theorem dX6_count_180 : decode cX6_count 180 = .ok (.ireturn, 1) := by decide +kernel
theorem dX6_count_181 : decode cX6_count 181 = .ok (.iload_n 3, 1) := by decide +kernel
theorem dX6_count_182 : decode cX6_count 182 = .ok (.ireturn, 1) := by decide +kernel
theorem dX6_count_183 : decode cX6_count 183 = .ok (.iconst (-1), 1) := by decide +kernel
theorem dX6_count_184 : decode cX6_count 184 = .ok (.ireturn, 1) := by decide +kernel
