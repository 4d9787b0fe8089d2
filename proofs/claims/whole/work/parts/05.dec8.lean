theorem dX8_init_0 : decode cX8_init 0 = .ok (.aload_n 0, 1) := by decide +kernel
theorem dX8_init_1 : decode cX8_init 1 = .ok (.invokespecial 1, 3) := by decide +kernel
theorem dX8_init_4 : decode cX8_init 4 = .ok (.aload_n 0, 1) := by decide +kernel
theorem dX8_init_5 : decode cX8_init 5 = .ok (.bipush 116, 2) := by decide +kernel
theorem dX8_init_7 : decode cX8_init 7 = .ok (.newarray .int, 2) := by decide +kernel
theorem dX8_init_9 : decode cX8_init 9 = .ok (.putfield 7, 3) := by decide +kernel
theorem dX8_init_12 : decode cX8_init 12 = .ok (.aload_n 0, 1) := by decide +kernel
theorem dX8_init_13 : decode cX8_init 13 = .ok (.bipush 29, 2) := by decide +kernel
theorem dX8_init_15 : decode cX8_init 15 = .ok (.newarray .int, 2) := by decide +kernel
theorem dX8_init_17 : decode cX8_init 17 = .ok (.putfield 13, 3) := by decide +kernel
theorem dX8_init_20 : decode cX8_init 20 = .ok (.aload_n 0, 1) := by decide +kernel
theorem dX8_init_21 : decode cX8_init 21 = .ok (.sipush 160, 3) := by decide +kernel
theorem dX8_init_24 : decode cX8_init 24 = .ok (.newarray .int, 2) := by decide +kernel
theorem dX8_init_26 : decode cX8_init 26 = .ok (.putfield 16, 3) := by decide +kernel
theorem dX8_init_29 : decode cX8_init 29 = .ok (.aload_n 0, 1) := by decide +kernel
theorem dX8_init_30 : decode cX8_init 30 = .ok (.bipush 7, 2) := by decide +kernel
theorem dX8_init_32 : decode cX8_init 32 = .ok (.newarray .int, 2) := by decide +kernel
theorem dX8_init_34 : decode cX8_init 34 = .ok (.dup, 1) := by decide +kernel
theorem dX8_init_35 : decode cX8_init 35 = .ok (.iconst 0, 1) := by decide +kernel
theorem dX8_init_36 : decode cX8_init 36 = .ok (.iconst 0, 1) := by decide +kernel
theorem dX8_init_37 : decode cX8_init 37 = .ok (.iastore, 1) := by decide +kernel
theorem dX8_init_38 : decode cX8_init 38 = .ok (.dup, 1) := by decide +kernel
theorem dX8_init_39 : decode cX8_init 39 = .ok (.iconst 1, 1) := by decide +kernel
theorem dX8_init_40 : decode cX8_init 40 = .ok (.iconst 5, 1) := by decide +kernel
theorem dX8_init_41 : decode cX8_init 41 = .ok (.iastore, 1) := by decide +kernel
theorem dX8_init_42 : decode cX8_init 42 = .ok (.dup, 1) := by decide +kernel
theorem dX8_init_43 : decode cX8_init 43 = .ok (.iconst 2, 1) := by decide +kernel
theorem dX8_init_44 : decode cX8_init 44 = .ok (.bipush 10, 2) := by decide +kernel
theorem dX8_init_46 : decode cX8_init 46 = .ok (.iastore, 1) := by decide +kernel
theorem dX8_init_47 : decode cX8_init 47 = .ok (.dup, 1) := by decide +kernel
theorem dX8_init_48 : decode cX8_init 48 = .ok (.iconst 3, 1) := by decide +kernel
theorem dX8_init_49 : decode cX8_init 49 = .ok (.bipush 14, 2) := by decide +kernel
theorem dX8_init_51 : decode cX8_init 51 = .ok (.iastore, 1) := by decide +kernel
theorem dX8_init_52 : decode cX8_init 52 = .ok (.dup, 1) := by decide +kernel
theorem dX8_init_53 : decode cX8_init 53 = .ok (.iconst 4, 1) := by decide +kernel
theorem dX8_init_54 : decode cX8_init 54 = .ok (.bipush 19, 2) := by decide +kernel
theorem dX8_init_56 : decode cX8_init 56 = .ok (.iastore, 1) := by decide +kernel
theorem dX8_init_57 : decode cX8_init 57 = .ok (.dup, 1) := by decide +kernel
theorem dX8_init_58 : decode cX8_init 58 = .ok (.iconst 5, 1) := by decide +kernel
theorem dX8_init_59 : decode cX8_init 59 = .ok (.bipush 23, 2) := by decide +kernel
theorem dX8_init_61 : decode cX8_init 61 = .ok (.iastore, 1) := by decide +kernel
theorem dX8_init_62 : decode cX8_init 62 = .ok (.dup, 1) := by decide +kernel
theorem dX8_init_63 : decode cX8_init 63 = .ok (.bipush 6, 2) := by decide +kernel
theorem dX8_init_65 : decode cX8_init 65 = .ok (.bipush 28, 2) := by decide +kernel
theorem dX8_init_67 : decode cX8_init 67 = .ok (.iastore, 1) := by decide +kernel
theorem dX8_init_68 : decode cX8_init 68 = .ok (.putfield 19, 3) := by decide +kernel
theorem dX8_init_71 : decode cX8_init 71 = .ok (.aload_n 0, 1) := by decide +kernel
theorem dX8_init_72 : decode cX8_init 72 = .ok (.bipush 28, 2) := by decide +kernel
theorem dX8_init_74 : decode cX8_init 74 = .ok (.newarray .int, 2) := by decide +kernel
theorem dX8_init_76 : decode cX8_init 76 = .ok (.dup, 1) := by decide +kernel
theorem dX8_init_77 : decode cX8_init 77 = .ok (.iconst 0, 1) := by decide +kernel
theorem dX8_init_78 : decode cX8_init 78 = .ok (.bipush 112, 2) := by decide +kernel
theorem dX8_init_80 : decode cX8_init 80 = .ok (.iastore, 1) := by decide +kernel
theorem dX8_init_81 : decode cX8_init 81 = .ok (.dup, 1) := by decide +kernel
theorem dX8_init_82 : decode cX8_init 82 = .ok (.iconst 1, 1) := by decide +kernel
theorem dX8_init_83 : decode cX8_init 83 = .ok (.bipush 108, 2) := by decide +kernel
theorem dX8_init_85 : decode cX8_init 85 = .ok (.iastore, 1) := by decide +kernel
theorem dX8_init_86 : decode cX8_init 86 = .ok (.dup, 1) := by decide +kernel
theorem dX8_init_87 : decode cX8_init 87 = .ok (.iconst 2, 1) := by decide +kernel
theorem dX8_init_88 : decode cX8_init 88 = .ok (.bipush 97, 2) := by decide +kernel
theorem dX8_init_90 : decode cX8_init 90 = .ok (.iastore, 1) := by decide +kernel
theorem dX8_init_91 : decode cX8_init 91 = .ok (.dup, 1) := by decide +kernel
theorem dX8_init_92 : decode cX8_init 92 = .ok (.iconst 3, 1) := by decide +kernel
theorem dX8_init_93 : decode cX8_init 93 = .ok (.bipush 105, 2) := by decide +kernel
theorem dX8_init_95 : decode cX8_init 95 = .ok (.iastore, 1) := by decide +kernel
theorem dX8_init_96 : decode cX8_init 96 = .ok (.dup, 1) := by decide +kernel
theorem dX8_init_97 : decode cX8_init 97 = .ok (.iconst 4, 1) := by decide +kernel
theorem dX8_init_98 : decode cX8_init 98 = .ok (.bipush 110, 2) := by decide +kernel
theorem dX8_init_100 : decode cX8_init 100 = .ok (.iastore, 1) := by decide +kernel
theorem dX8_init_101 : decode cX8_init 101 = .ok (.dup, 1) := by decide +kernel
theorem dX8_init_102 : decode cX8_init 102 = .ok (.iconst 5, 1) := by decide +kernel
theorem dX8_init_103 : decode cX8_init 103 = .ok (.bipush 109, 2) := by decide +kernel
theorem dX8_init_105 : decode cX8_init 105 = .ok (.iastore, 1) := by decide +kernel
theorem dX8_init_106 : decode cX8_init 106 = .ok (.dup, 1) := by decide +kernel
theorem dX8_init_107 : decode cX8_init 107 = .ok (.bipush 6, 2) := by decide +kernel
theorem dX8_init_109 : decode cX8_init 109 = .ok (.bipush 111, 2) := by decide +kernel
theorem dX8_init_111 : decode cX8_init 111 = .ok (.iastore, 1) := by decide +kernel
theorem dX8_init_112 : decode cX8_init 112 = .ok (.dup, 1) := by decide +kernel
theorem dX8_init_113 : decode cX8_init 113 = .ok (.bipush 7, 2) := by decide +kernel
theorem dX8_init_115 : decode cX8_init 115 = .ok (.bipush 117, 2) := by decide +kernel
theorem dX8_init_117 : decode cX8_init 117 = .ok (.iastore, 1) := by decide +kernel
theorem dX8_init_118 : decode cX8_init 118 = .ok (.dup, 1) := by decide +kernel
theorem dX8_init_119 : decode cX8_init 119 = .ok (.bipush 8, 2) := by decide +kernel
theorem dX8_init_121 : decode cX8_init 121 = .ok (.bipush 110, 2) := by decide +kernel
theorem dX8_init_123 : decode cX8_init 123 = .ok (.iastore, 1) := by decide +kernel
theorem dX8_init_124 : decode cX8_init 124 = .ok (.dup, 1) := by decide +kernel
theorem dX8_init_125 : decode cX8_init 125 = .ok (.bipush 9, 2) := by decide +kernel
theorem dX8_init_127 : decode cX8_init 127 = .ok (.bipush 100, 2) := by decide +kernel
theorem dX8_init_129 : decode cX8_init 129 = .ok (.iastore, 1) := by decide +kernel
theorem dX8_init_130 : decode cX8_init 130 = .ok (.dup, 1) := by decide +kernel
theorem dX8_init_131 : decode cX8_init 131 = .ok (.bipush 10, 2) := by decide +kernel
theorem dX8_init_133 : decode cX8_init 133 = .ok (.bipush 116, 2) := by decide +kernel
theorem dX8_init_135 : decode cX8_init 135 = .ok (.iastore, 1) := by decide +kernel
theorem dX8_init_136 : decode cX8_init 136 = .ok (.dup, 1) := by decide +kernel
theorem dX8_init_137 : decode cX8_init 137 = .ok (.bipush 11, 2) := by decide +kernel
theorem dX8_init_139 : decode cX8_init 139 = .ok (.bipush 101, 2) := by decide +kernel
theorem dX8_init_141 : decode cX8_init 141 = .ok (.iastore, 1) := by decide +kernel
theorem dX8_init_142 : decode cX8_init 142 = .ok (.dup, 1) := by decide +kernel
theorem dX8_init_143 : decode cX8_init 143 = .ok (.bipush 12, 2) := by decide +kernel
theorem dX8_init_145 : decode cX8_init 145 = .ok (.bipush 110, 2) := by decide +kernel
theorem dX8_init_147 : decode cX8_init 147 = .ok (.iastore, 1) := by decide +kernel
theorem dX8_init_148 : decode cX8_init 148 = .ok (.dup, 1) := by decide +kernel
theorem dX8_init_149 : decode cX8_init 149 = .ok (.bipush 13, 2) := by decide +kernel
theorem dX8_init_151 : decode cX8_init 151 = .ok (.bipush 116, 2) := by decide +kernel
theorem dX8_init_153 : decode cX8_init 153 = .ok (.iastore, 1) := by decide +kernel
theorem dX8_init_154 : decode cX8_init 154 = .ok (.dup, 1) := by decide +kernel
theorem dX8_init_155 : decode cX8_init 155 = .ok (.bipush 14, 2) := by decide +kernel
theorem dX8_init_157 : decode cX8_init 157 = .ok (.bipush 116, 2) := by decide +kernel
theorem dX8_init_159 : decode cX8_init 159 = .ok (.iastore, 1) := by decide +kernel
theorem dX8_init_160 : decode cX8_init 160 = .ok (.dup, 1) := by decide +kernel
theorem dX8_init_161 : decode cX8_init 161 = .ok (.bipush 15, 2) := by decide +kernel
theorem dX8_init_163 : decode cX8_init 163 = .ok (.bipush 119, 2) := by decide +kernel
theorem dX8_init_165 : decode cX8_init 165 = .ok (.iastore, 1) := by decide +kernel
theorem dX8_init_166 : decode cX8_init 166 = .ok (.dup, 1) := by decide +kernel
theorem dX8_init_167 : decode cX8_init 167 = .ok (.bipush 16, 2) := by decide +kernel
theorem dX8_init_169 : decode cX8_init 169 = .ok (.bipush 105, 2) := by decide +kernel
theorem dX8_init_171 : decode cX8_init 171 = .ok (.iastore, 1) := by decide +kernel
theorem dX8_init_172 : decode cX8_init 172 = .ok (.dup, 1) := by decide +kernel
theorem dX8_init_173 : decode cX8_init 173 = .ok (.bipush 17, 2) := by decide +kernel
theorem dX8_init_175 : decode cX8_init 175 = .ok (.bipush 99, 2) := by decide +kernel
theorem dX8_init_177 : decode cX8_init 177 = .ok (.iastore, 1) := by decide +kernel
theorem dX8_init_178 : decode cX8_init 178 = .ok (.dup, 1) := by decide +kernel
theorem dX8_init_179 : decode cX8_init 179 = .ok (.bipush 18, 2) := by decide +kernel
theorem dX8_init_181 : decode cX8_init 181 = .ok (.bipush 101, 2) := by decide +kernel
theorem dX8_init_183 : decode cX8_init 183 = .ok (.iastore, 1) := by decide +kernel
theorem dX8_init_184 : decode cX8_init 184 = .ok (.dup, 1) := by decide +kernel
theorem dX8_init_185 : decode cX8_init 185 = .ok (.bipush 19, 2) := by decide +kernel
theorem dX8_init_187 : decode cX8_init 187 = .ok (.bipush 108, 2) := by decide +kernel
theorem dX8_init_189 : decode cX8_init 189 = .ok (.iastore, 1) := by decide +kernel
theorem dX8_init_190 : decode cX8_init 190 = .ok (.dup, 1) := by decide +kernel
theorem dX8_init_191 : decode cX8_init 191 = .ok (.bipush 20, 2) := by decide +kernel
theorem dX8_init_193 : decode cX8_init 193 = .ok (.bipush 111, 2) := by decide +kernel
theorem dX8_init_195 : decode cX8_init 195 = .ok (.iastore, 1) := by decide +kernel
theorem dX8_init_196 : decode cX8_init 196 = .ok (.dup, 1) := by decide +kernel
theorem dX8_init_197 : decode cX8_init 197 = .ok (.bipush 21, 2) := by decide +kernel
theorem dX8_init_199 : decode cX8_init 199 = .ok (.bipush 114, 2) := by decide +kernel
theorem dX8_init_201 : decode cX8_init 201 = .ok (.iastore, 1) := by decide +kernel
theorem dX8_init_202 : decode cX8_init 202 = .ok (.dup, 1) := by decide +kernel
theorem dX8_init_203 : decode cX8_init 203 = .ok (.bipush 22, 2) := by decide +kernel
theorem dX8_init_205 : decode cX8_init 205 = .ok (.bipush 100, 2) := by decide +kernel
theorem dX8_init_207 : decode cX8_init 207 = .ok (.iastore, 1) := by decide +kernel
theorem dX8_init_208 : decode cX8_init 208 = .ok (.dup, 1) := by decide +kernel
theorem dX8_init_209 : decode cX8_init 209 = .ok (.bipush 23, 2) := by decide +kernel
theorem dX8_init_211 : decode cX8_init 211 = .ok (.bipush 112, 2) := by decide +kernel
theorem dX8_init_213 : decode cX8_init 213 = .ok (.iastore, 1) := by decide +kernel
theorem dX8_init_214 : decode cX8_init 214 = .ok (.dup, 1) := by decide +kernel
theorem dX8_init_215 : decode cX8_init 215 = .ok (.bipush 24, 2) := by decide +kernel
theorem dX8_init_217 : decode cX8_init 217 = .ok (.bipush 114, 2) := by decide +kernel
theorem dX8_init_219 : decode cX8_init 219 = .ok (.iastore, 1) := by decide +kernel
theorem dX8_init_220 : decode cX8_init 220 = .ok (.dup, 1) := by decide +kernel
theorem dX8_init_221 : decode cX8_init 221 = .ok (.bipush 25, 2) := by decide +kernel
theorem dX8_init_223 : decode cX8_init 223 = .ok (.bipush 105, 2) := by decide +kernel
theorem dX8_init_225 : decode cX8_init 225 = .ok (.iastore, 1) := by decide +kernel
theorem dX8_init_226 : decode cX8_init 226 = .ok (.dup, 1) := by decide +kernel
theorem dX8_init_227 : decode cX8_init 227 = .ok (.bipush 26, 2) := by decide +kernel
theorem dX8_init_229 : decode cX8_init 229 = .ok (.bipush 99, 2) := by decide +kernel
theorem dX8_init_231 : decode cX8_init 231 = .ok (.iastore, 1) := by decide +kernel
theorem dX8_init_232 : decode cX8_init 232 = .ok (.dup, 1) := by decide +kernel
theorem dX8_init_233 : decode cX8_init 233 = .ok (.bipush 27, 2) := by decide +kernel
theorem dX8_init_235 : decode cX8_init 235 = .ok (.bipush 101, 2) := by decide +kernel
theorem dX8_init_237 : decode cX8_init 237 = .ok (.iastore, 1) := by decide +kernel
theorem dX8_init_238 : decode cX8_init 238 = .ok (.putfield 22, 3) := by decide +kernel
theorem dX8_init_241 : decode cX8_init 241 = .ok (.aload_n 0, 1) := by decide +kernel
theorem dX8_init_242 : decode cX8_init 242 = .ok (.bipush 6, 2) := by decide +kernel
theorem dX8_init_244 : decode cX8_init 244 = .ok (.newarray .int, 2) := by decide +kernel
theorem dX8_init_246 : decode cX8_init 246 = .ok (.putfield 25, 3) := by decide +kernel
theorem dX8_init_249 : decode cX8_init 249 = .ok (.aload_n 0, 1) := by decide +kernel
theorem dX8_init_250 : decode cX8_init 250 = .ok (.bipush 10, 2) := by decide +kernel
theorem dX8_init_252 : decode cX8_init 252 = .ok (.newarray .int, 2) := by decide +kernel
theorem dX8_init_254 : decode cX8_init 254 = .ok (.putfield 28, 3) := by decide +kernel
theorem dX8_init_257 : decode cX8_init 257 = .ok (.aload_n 0, 1) := by decide +kernel
theorem dX8_init_258 : decode cX8_init 258 = .ok (.bipush 12, 2) := by decide +kernel
theorem dX8_init_260 : decode cX8_init 260 = .ok (.newarray .int, 2) := by decide +kernel
theorem dX8_init_262 : decode cX8_init 262 = .ok (.putfield 31, 3) := by decide +kernel
theorem dX8_init_265 : decode cX8_init 265 = .ok (.aload_n 0, 1) := by decide +kernel
theorem dX8_init_266 : decode cX8_init 266 = .ok (.iconst 5, 1) := by decide +kernel
theorem dX8_init_267 : decode cX8_init 267 = .ok (.newarray .int, 2) := by decide +kernel
theorem dX8_init_269 : decode cX8_init 269 = .ok (.putfield 34, 3) := by decide +kernel
theorem dX8_init_272 : decode cX8_init 272 = .ok (.aload_n 0, 1) := by decide +kernel
theorem dX8_init_273 : decode cX8_init 273 = .ok (.iconst 2, 1) := by decide +kernel
theorem dX8_init_274 : decode cX8_init 274 = .ok (.newarray .boolean, 2) := by decide +kernel
theorem dX8_init_276 : decode cX8_init 276 = .ok (.putfield 37, 3) := by decide +kernel
theorem dX8_init_279 : decode cX8_init 279 = .ok (.aload_n 0, 1) := by decide +kernel
theorem dX8_init_280 : decode cX8_init 280 = .ok (.iconst 4, 1) := by decide +kernel
theorem dX8_init_281 : decode cX8_init 281 = .ok (.newarray .int, 2) := by decide +kernel
theorem dX8_init_283 : decode cX8_init 283 = .ok (.dup, 1) := by decide +kernel
theorem dX8_init_284 : decode cX8_init 284 = .ok (.iconst 0, 1) := by decide +kernel
theorem dX8_init_285 : decode cX8_init 285 = .ok (.bipush (-4), 2) := by decide +kernel
theorem dX8_init_287 : decode cX8_init 287 = .ok (.iastore, 1) := by decide +kernel
theorem dX8_init_288 : decode cX8_init 288 = .ok (.dup, 1) := by decide +kernel
theorem dX8_init_289 : decode cX8_init 289 = .ok (.iconst 1, 1) := by decide +kernel
theorem dX8_init_290 : decode cX8_init 290 = .ok (.bipush (-4), 2) := by decide +kernel
theorem dX8_init_292 : decode cX8_init 292 = .ok (.iastore, 1) := by decide +kernel
theorem dX8_init_293 : decode cX8_init 293 = .ok (.dup, 1) := by decide +kernel
theorem dX8_init_294 : decode cX8_init 294 = .ok (.iconst 2, 1) := by decide +kernel
theorem dX8_init_295 : decode cX8_init 295 = .ok (.bipush (-4), 2) := by decide +kernel
theorem dX8_init_297 : decode cX8_init 297 = .ok (.iastore, 1) := by decide +kernel
theorem dX8_init_298 : decode cX8_init 298 = .ok (.dup, 1) := by decide +kernel
theorem dX8_init_299 : decode cX8_init 299 = .ok (.iconst 3, 1) := by decide +kernel
theorem dX8_init_300 : decode cX8_init 300 = .ok (.bipush (-4), 2) := by decide +kernel
theorem dX8_init_302 : decode cX8_init 302 = .ok (.iastore, 1) := by decide +kernel
theorem dX8_init_303 : decode cX8_init 303 = .ok (.putfield 41, 3) := by decide +kernel
theorem dX8_init_306 : decode cX8_init 306 = .ok (.aload_n 0, 1) := by decide +kernel
theorem dX8_init_307 : decode cX8_init 307 = .ok (.iconst 4, 1) := by decide +kernel
theorem dX8_init_308 : decode cX8_init 308 = .ok (.newarray .int, 2) := by decide +kernel
theorem dX8_init_310 : decode cX8_init 310 = .ok (.putfield 44, 3) := by decide +kernel
theorem dX8_init_313 : decode cX8_init 313 = .ok (.aload_n 0, 1) := by decide +kernel
theorem dX8_init_314 : decode cX8_init 314 = .ok (.sipush 160, 3) := by decide +kernel
theorem dX8_init_317 : decode cX8_init 317 = .ok (.newarray .int, 2) := by decide +kernel
theorem dX8_init_319 : decode cX8_init 319 = .ok (.putfield 47, 3) := by decide +kernel
theorem dX8_init_322 : decode cX8_init 322 = .ok (.return_, 1) := by decide +kernel
theorem dX8_in_0 : decode cX8_in 0 = .ok (.lload_n 0, 1) := by decide +kernel
theorem dX8_in_1 : decode cX8_in 1 = .ok (.lload_n 2, 1) := by decide +kernel
theorem dX8_in_2 : decode cX8_in 2 = .ok (.lcmp, 1) := by decide +kernel
theorem dX8_in_3 : decode cX8_in 3 = .ok (.ifCond .lt 14, 3) := by decide +kernel
theorem dX8_in_6 : decode cX8_in 6 = .ok (.lload_n 0, 1) := by decide +kernel
theorem dX8_in_7 : decode cX8_in 7 = .ok (.lload 4, 2) := by decide +kernel
theorem dX8_in_9 : decode cX8_in 9 = .ok (.lcmp, 1) := by decide +kernel
theorem dX8_in_10 : decode cX8_in 10 = .ok (.ifCond .gt 7, 3) := by decide +kernel
theorem dX8_in_13 : decode cX8_in 13 = .ok (.iconst 1, 1) := by decide +kernel
theorem dX8_in_14 : decode cX8_in 14 = .ok (.goto 4, 3) := by decide +kernel
theorem dX8_in_17 : decode cX8_in 17 = .ok (.iconst 0, 1) := by decide +kernel
theorem dX8_in_18 : decode cX8_in 18 = .ok (.ireturn, 1) := by decide +kernel
set_option maxRecDepth 20000 in
theorem ggX8_feed_X8_in : GoodIn wsX8_feed wsX8_in := goodIn_r _ [7] (by decide +kernel) (by decide +kernel)
set_option maxRecDepth 20000 in
theorem gX8_feed_X8_in : GoodIn wsX8_feed (va_wsS RX8 52 yX8_in wsX8_in) := goodIn_app (goodIn_of _ (by decide +kernel)) ggX8_feed_X8_in
theorem dX8_feed_0 : decode cX8_feed 0 = .ok (.iload_n 1, 1) := by decide +kernel
theorem dX8_feed_1 : decode cX8_feed 1 = .ok (.i2l, 1) := by decide +kernel
theorem dX8_feed_2 : decode cX8_feed 2 = .ok (.lconst 0, 1) := by decide +kernel
theorem dX8_feed_3 : decode cX8_feed 3 = .ok (.ldc2_w 50, 3) := by decide +kernel
theorem dX8_feed_6 : decode cX8_feed 6 = .ok (.invokestatic 52, 3) := by decide +kernel
theorem dX8_feed_9 : decode cX8_feed 9 = .ok (.ifCond .ne 5, 3) := by decide +kernel
theorem dX8_feed_12 : decode cX8_feed 12 = .ok (.iconst (-1), 1) := by decide +kernel
theorem dX8_feed_13 : decode cX8_feed 13 = .ok (.ireturn, 1) := by decide +kernel
theorem dX8_feed_14 : decode cX8_feed 14 = .ok (.aload_n 0, 1) := by decide +kernel
theorem dX8_feed_15 : decode cX8_feed 15 = .ok (.getfield 56, 3) := by decide +kernel
theorem dX8_feed_18 : decode cX8_feed 18 = .ok (.sipush 160, 3) := by decide +kernel
theorem dX8_feed_21 : decode cX8_feed 21 = .ok (.if_icmp .ne 6, 3) := by decide +kernel
theorem dX8_feed_24 : decode cX8_feed 24 = .ok (.bipush (-3), 2) := by decide +kernel
theorem dX8_feed_26 : decode cX8_feed 26 = .ok (.ireturn, 1) := by decide +kernel
theorem dX8_feed_27 : decode cX8_feed 27 = .ok (.aload_n 0, 1) := by decide +kernel
theorem dX8_feed_28 : decode cX8_feed 28 = .ok (.getfield 16, 3) := by decide +kernel
theorem dX8_feed_31 : decode cX8_feed 31 = .ok (.aload_n 0, 1) := by decide +kernel
theorem dX8_feed_32 : decode cX8_feed 32 = .ok (.getfield 56, 3) := by decide +kernel
theorem dX8_feed_35 : decode cX8_feed 35 = .ok (.iload_n 1, 1) := by decide +kernel
theorem dX8_feed_36 : decode cX8_feed 36 = .ok (.iastore, 1) := by decide +kernel
theorem dX8_feed_37 : decode cX8_feed 37 = .ok (.aload_n 0, 1) := by decide +kernel
theorem dX8_feed_38 : decode cX8_feed 38 = .ok (.dup, 1) := by decide +kernel
theorem dX8_feed_39 : decode cX8_feed 39 = .ok (.getfield 56, 3) := by decide +kernel
theorem dX8_feed_42 : decode cX8_feed 42 = .ok (.iconst 1, 1) := by decide +kernel
theorem dX8_feed_43 : decode cX8_feed 43 = .ok (.iadd, 1) := by decide +kernel
theorem dX8_feed_44 : decode cX8_feed 44 = .ok (.putfield 56, 3) := by decide +kernel
theorem dX8_feed_47 : decode cX8_feed 47 = .ok (.aload_n 0, 1) := by decide +kernel
theorem dX8_feed_48 : decode cX8_feed 48 = .ok (.getfield 56, 3) := by decide +kernel
theorem dX8_feed_51 : decode cX8_feed 51 = .ok (.ireturn, 1) := by decide +kernel
set_option maxRecDepth 20000 in
theorem ggX8_end_X8_in : GoodIn wsX8_end wsX8_in := goodIn_r _ [5] (by decide +kernel) (by decide +kernel)
set_option maxRecDepth 20000 in
theorem gX8_end_X8_in : GoodIn wsX8_end (va_wsS RX8 52 yX8_in wsX8_in) := goodIn_app (goodIn_of _ (by decide +kernel)) ggX8_end_X8_in
theorem dX8_end_0 : decode cX8_end 0 = .ok (.iload_n 1, 1) := by decide +kernel
theorem dX8_end_1 : decode cX8_end 1 = .ok (.i2l, 1) := by decide +kernel
theorem dX8_end_2 : decode cX8_end 2 = .ok (.lconst 0, 1) := by decide +kernel
theorem dX8_end_3 : decode cX8_end 3 = .ok (.aload_n 0, 1) := by decide +kernel
theorem dX8_end_4 : decode cX8_end 4 = .ok (.getfield 56, 3) := by decide +kernel
theorem dX8_end_7 : decode cX8_end 7 = .ok (.i2l, 1) := by decide +kernel
theorem dX8_end_8 : decode cX8_end 8 = .ok (.invokestatic 52, 3) := by decide +kernel
theorem dX8_end_11 : decode cX8_end 11 = .ok (.ifCond .ne 5, 3) := by decide +kernel
theorem dX8_end_14 : decode cX8_end 14 = .ok (.iconst (-1), 1) := by decide +kernel
theorem dX8_end_15 : decode cX8_end 15 = .ok (.ireturn, 1) := by decide +kernel
theorem dX8_end_16 : decode cX8_end 16 = .ok (.aload_n 0, 1) := by decide +kernel
theorem dX8_end_17 : decode cX8_end 17 = .ok (.getfield 56, 3) := by decide +kernel
theorem dX8_end_20 : decode cX8_end 20 = .ok (.istore_n 2, 1) := by decide +kernel
theorem dX8_end_21 : decode cX8_end 21 = .ok (.aload_n 0, 1) := by decide +kernel
theorem dX8_end_22 : decode cX8_end 22 = .ok (.iload_n 1, 1) := by decide +kernel
theorem dX8_end_23 : decode cX8_end 23 = .ok (.putfield 56, 3) := by decide +kernel
theorem dX8_end_26 : decode cX8_end 26 = .ok (.iload_n 2, 1) := by decide +kernel
theorem dX8_end_27 : decode cX8_end 27 = .ok (.ireturn, 1) := by decide +kernel
theorem dX8_byteAt_0 : decode cX8_byteAt 0 = .ok (.iload_n 1, 1) := by decide +kernel
theorem dX8_byteAt_1 : decode cX8_byteAt 1 = .ok (.aload_n 0, 1) := by decide +kernel
theorem dX8_byteAt_2 : decode cX8_byteAt 2 = .ok (.getfield 56, 3) := by decide +kernel
theorem dX8_byteAt_5 : decode cX8_byteAt 5 = .ok (.if_icmp .ge 12, 3) := by decide +kernel
theorem dX8_byteAt_8 : decode cX8_byteAt 8 = .ok (.aload_n 0, 1) := by decide +kernel
theorem dX8_byteAt_9 : decode cX8_byteAt 9 = .ok (.getfield 16, 3) := by decide +kernel
theorem dX8_byteAt_12 : decode cX8_byteAt 12 = .ok (.iload_n 1, 1) := by decide +kernel
theorem dX8_byteAt_13 : decode cX8_byteAt 13 = .ok (.iaload, 1) := by decide +kernel
theorem dX8_byteAt_14 : decode cX8_byteAt 14 = .ok (.goto 5, 3) := by decide +kernel
theorem dX8_byteAt_17 : decode cX8_byteAt 17 = .ok (.bipush (-4), 2) := by decide +kernel
theorem dX8_byteAt_19 : decode cX8_byteAt 19 = .ok (.ireturn, 1) := by decide +kernel
theorem dX8_fails_0 : decode cX8_fails 0 = .ok (.aload_n 0, 1) := by decide +kernel
theorem dX8_fails_1 : decode cX8_fails 1 = .ok (.getfield 60, 3) := by decide +kernel
theorem dX8_fails_4 : decode cX8_fails 4 = .ok (.ifCond .ne 16, 3) := by decide +kernel
theorem dX8_fails_7 : decode cX8_fails 7 = .ok (.aload_n 0, 1) := by decide +kernel
theorem dX8_fails_8 : decode cX8_fails 8 = .ok (.iload_n 1, 1) := by decide +kernel
theorem dX8_fails_9 : decode cX8_fails 9 = .ok (.putfield 60, 3) := by decide +kernel
theorem dX8_fails_12 : decode cX8_fails 12 = .ok (.aload_n 0, 1) := by decide +kernel
theorem dX8_fails_13 : decode cX8_fails 13 = .ok (.aload_n 0, 1) := by decide +kernel
theorem dX8_fails_14 : decode cX8_fails 14 = .ok (.getfield 63, 3) := by decide +kernel
theorem dX8_fails_17 : decode cX8_fails 17 = .ok (.putfield 66, 3) := by decide +kernel
theorem dX8_fails_20 : decode cX8_fails 20 = .ok (.return_, 1) := by decide +kernel
set_option maxRecDepth 20000 in
theorem ggX8_nameHere_X8_byteAt : GoodIn wsX8_nameHere wsX8_byteAt := goodIn_r _ [10, 11, 12, 13, 14, 15, 16, 17, 18, 19, 20, 21, 22, 23, 24, 25, 26, 27, 28, 29, 30, 31, 32, 33, 34, 35, 36, 37, 38, 39, 40, 41, 42, 43, 44] (by decide +kernel) (by decide +kernel)
set_option maxRecDepth 20000 in
theorem gX8_nameHere_X8_byteAt : GoodIn wsX8_nameHere (wsV RX8 75 RX8 yX8_byteAt wsX8_byteAt) := goodIn_app (goodIn_of _ (by decide +kernel)) ggX8_nameHere_X8_byteAt
theorem dX8_nameHere_0 : decode cX8_nameHere 0 = .ok (.iconst 0, 1) := by decide +kernel
theorem dX8_nameHere_1 : decode cX8_nameHere 1 = .ok (.istore_n 1, 1) := by decide +kernel
theorem dX8_nameHere_2 : decode cX8_nameHere 2 = .ok (.iload_n 1, 1) := by decide +kernel
theorem dX8_nameHere_3 : decode cX8_nameHere 3 = .ok (.bipush 6, 2) := by decide +kernel
theorem dX8_nameHere_5 : decode cX8_nameHere 5 = .ok (.if_icmp .ge 113, 3) := by decide +kernel
theorem dX8_nameHere_8 : decode cX8_nameHere 8 = .ok (.aload_n 0, 1) := by decide +kernel
theorem dX8_nameHere_9 : decode cX8_nameHere 9 = .ok (.getfield 69, 3) := by decide +kernel
theorem dX8_nameHere_12 : decode cX8_nameHere 12 = .ok (.iconst 1, 1) := by decide +kernel
theorem dX8_nameHere_13 : decode cX8_nameHere 13 = .ok (.if_icmp .ne 105, 3) := by decide +kernel
theorem dX8_nameHere_16 : decode cX8_nameHere 16 = .ok (.aload_n 0, 1) := by decide +kernel
theorem dX8_nameHere_17 : decode cX8_nameHere 17 = .ok (.getfield 72, 3) := by decide +kernel
theorem dX8_nameHere_20 : decode cX8_nameHere 20 = .ok (.aload_n 0, 1) := by decide +kernel
theorem dX8_nameHere_21 : decode cX8_nameHere 21 = .ok (.getfield 63, 3) := by decide +kernel
theorem dX8_nameHere_24 : decode cX8_nameHere 24 = .ok (.isub, 1) := by decide +kernel
theorem dX8_nameHere_25 : decode cX8_nameHere 25 = .ok (.aload_n 0, 1) := by decide +kernel
theorem dX8_nameHere_26 : decode cX8_nameHere 26 = .ok (.getfield 19, 3) := by decide +kernel
theorem dX8_nameHere_29 : decode cX8_nameHere 29 = .ok (.iload_n 1, 1) := by decide +kernel
theorem dX8_nameHere_30 : decode cX8_nameHere 30 = .ok (.iconst 1, 1) := by decide +kernel
theorem dX8_nameHere_31 : decode cX8_nameHere 31 = .ok (.iadd, 1) := by decide +kernel
theorem dX8_nameHere_32 : decode cX8_nameHere 32 = .ok (.iaload, 1) := by decide +kernel
theorem dX8_nameHere_33 : decode cX8_nameHere 33 = .ok (.aload_n 0, 1) := by decide +kernel
theorem dX8_nameHere_34 : decode cX8_nameHere 34 = .ok (.getfield 19, 3) := by decide +kernel
theorem dX8_nameHere_37 : decode cX8_nameHere 37 = .ok (.iload_n 1, 1) := by decide +kernel
theorem dX8_nameHere_38 : decode cX8_nameHere 38 = .ok (.iaload, 1) := by decide +kernel
theorem dX8_nameHere_39 : decode cX8_nameHere 39 = .ok (.isub, 1) := by decide +kernel
theorem dX8_nameHere_40 : decode cX8_nameHere 40 = .ok (.if_icmp .ne 7, 3) := by decide +kernel
theorem dX8_nameHere_43 : decode cX8_nameHere 43 = .ok (.iconst 1, 1) := by decide +kernel
theorem dX8_nameHere_44 : decode cX8_nameHere 44 = .ok (.goto 4, 3) := by decide +kernel
theorem dX8_nameHere_47 : decode cX8_nameHere 47 = .ok (.iconst 0, 1) := by decide +kernel
theorem dX8_nameHere_48 : decode cX8_nameHere 48 = .ok (.istore_n 2, 1) := by decide +kernel
theorem dX8_nameHere_49 : decode cX8_nameHere 49 = .ok (.iconst 0, 1) := by decide +kernel
theorem dX8_nameHere_50 : decode cX8_nameHere 50 = .ok (.istore_n 3, 1) := by decide +kernel
theorem dX8_nameHere_51 : decode cX8_nameHere 51 = .ok (.iload_n 2, 1) := by decide +kernel
theorem dX8_nameHere_52 : decode cX8_nameHere 52 = .ok (.ifCond .eq 54, 3) := by decide +kernel
theorem dX8_nameHere_55 : decode cX8_nameHere 55 = .ok (.iload_n 3, 1) := by decide +kernel
theorem dX8_nameHere_56 : decode cX8_nameHere 56 = .ok (.aload_n 0, 1) := by decide +kernel
theorem dX8_nameHere_57 : decode cX8_nameHere 57 = .ok (.getfield 72, 3) := by decide +kernel
theorem dX8_nameHere_60 : decode cX8_nameHere 60 = .ok (.aload_n 0, 1) := by decide +kernel
theorem dX8_nameHere_61 : decode cX8_nameHere 61 = .ok (.getfield 63, 3) := by decide +kernel
theorem dX8_nameHere_64 : decode cX8_nameHere 64 = .ok (.isub, 1) := by decide +kernel
theorem dX8_nameHere_65 : decode cX8_nameHere 65 = .ok (.if_icmp .ge 41, 3) := by decide +kernel
theorem dX8_nameHere_68 : decode cX8_nameHere 68 = .ok (.aload_n 0, 1) := by decide +kernel
theorem dX8_nameHere_69 : decode cX8_nameHere 69 = .ok (.aload_n 0, 1) := by decide +kernel
theorem dX8_nameHere_70 : decode cX8_nameHere 70 = .ok (.getfield 63, 3) := by decide +kernel
theorem dX8_nameHere_73 : decode cX8_nameHere 73 = .ok (.iload_n 3, 1) := by decide +kernel
theorem dX8_nameHere_74 : decode cX8_nameHere 74 = .ok (.iadd, 1) := by decide +kernel
theorem dX8_nameHere_75 : decode cX8_nameHere 75 = .ok (.invokevirtual 75, 3) := by decide +kernel
theorem dX8_nameHere_78 : decode cX8_nameHere 78 = .ok (.aload_n 0, 1) := by decide +kernel
theorem dX8_nameHere_79 : decode cX8_nameHere 79 = .ok (.getfield 22, 3) := by decide +kernel
theorem dX8_nameHere_82 : decode cX8_nameHere 82 = .ok (.aload_n 0, 1) := by decide +kernel
theorem dX8_nameHere_83 : decode cX8_nameHere 83 = .ok (.getfield 19, 3) := by decide +kernel
theorem dX8_nameHere_86 : decode cX8_nameHere 86 = .ok (.iload_n 1, 1) := by decide +kernel
theorem dX8_nameHere_87 : decode cX8_nameHere 87 = .ok (.iaload, 1) := by decide +kernel
theorem dX8_nameHere_88 : decode cX8_nameHere 88 = .ok (.iload_n 3, 1) := by decide +kernel
theorem dX8_nameHere_89 : decode cX8_nameHere 89 = .ok (.iadd, 1) := by decide +kernel
theorem dX8_nameHere_90 : decode cX8_nameHere 90 = .ok (.iaload, 1) := by decide +kernel
theorem dX8_nameHere_91 : decode cX8_nameHere 91 = .ok (.if_icmp .ne 7, 3) := by decide +kernel
theorem dX8_nameHere_94 : decode cX8_nameHere 94 = .ok (.iconst 1, 1) := by decide +kernel
theorem dX8_nameHere_95 : decode cX8_nameHere 95 = .ok (.goto 4, 3) := by decide +kernel
theorem dX8_nameHere_98 : decode cX8_nameHere 98 = .ok (.iconst 0, 1) := by decide +kernel
theorem dX8_nameHere_99 : decode cX8_nameHere 99 = .ok (.istore_n 2, 1) := by decide +kernel
theorem dX8_nameHere_100 : decode cX8_nameHere 100 = .ok (.iinc 3 1, 3) := by decide +kernel
theorem dX8_nameHere_103 : decode cX8_nameHere 103 = .ok (.goto (-52), 3) := by decide +kernel
theorem dX8_nameHere_106 : decode cX8_nameHere 106 = .ok (.iload_n 2, 1) := by decide +kernel
theorem dX8_nameHere_107 : decode cX8_nameHere 107 = .ok (.ifCond .eq 5, 3) := by decide +kernel
theorem dX8_nameHere_110 : decode cX8_nameHere 110 = .ok (.iload_n 1, 1) := by decide +kernel
theorem dX8_nameHere_111 : decode cX8_nameHere 111 = .ok (.ireturn, 1) := by decide +kernel
theorem dX8_nameHere_112 : decode cX8_nameHere 112 = .ok (.iinc 1 1, 3) := by decide +kernel
theorem dX8_nameHere_115 : decode cX8_nameHere 115 = .ok (.goto (-113), 3) := by decide +kernel
theorem dX8_nameHere_118 : decode cX8_nameHere 118 = .ok (.bipush (-4), 2) := by decide +kernel
theorem dX8_nameHere_120 : decode cX8_nameHere 120 = .ok (.ireturn, 1) := by decide +kernel
set_option maxRecDepth 20000 in
theorem ggX8_step_X8_byteAt : GoodIn wsX8_step wsX8_byteAt := goodIn_r _ [14, 15, 16, 25, 26, 27, 28, 29, 30, 31, 32, 33, 34, 35, 36, 37, 38, 39, 40, 41, 42, 43, 44, 45, 46, 47, 48, 49, 50, 51, 52, 53, 54, 55, 56] (by decide +kernel) (by decide +kernel)
set_option maxRecDepth 20000 in
theorem gX8_step_X8_byteAt : GoodIn wsX8_step (wsV RX8 75 RX8 yX8_byteAt wsX8_byteAt) := goodIn_app (goodIn_of _ (by decide +kernel)) ggX8_step_X8_byteAt
set_option maxRecDepth 20000 in
theorem ggX8_step_X8_in : GoodIn wsX8_step wsX8_in := goodIn_r _ [19] (by decide +kernel) (by decide +kernel)
set_option maxRecDepth 20000 in
theorem gX8_step_X8_in : GoodIn wsX8_step (va_wsS RX8 52 yX8_in wsX8_in) := goodIn_app (goodIn_of _ (by decide +kernel)) ggX8_step_X8_in
set_option maxRecDepth 20000 in
theorem ggX8_step_X8_fails : GoodIn wsX8_step wsX8_fails := goodIn_r _ [23, 1, 3, 24, 25, 26, 27, 28, 29, 30, 31, 32, 33, 34, 35, 36, 37, 38, 39, 40, 41, 42, 43, 44, 45, 46, 47, 48, 49, 50, 51, 52, 53, 54, 55, 56] (by decide +kernel) (by decide +kernel)
set_option maxRecDepth 20000 in
theorem gX8_step_X8_fails : GoodIn wsX8_step (wsV RX8 90 RX8 yX8_fails wsX8_fails) := goodIn_app (goodIn_of _ (by decide +kernel)) ggX8_step_X8_fails
theorem dX8_step_0 : decode cX8_step 0 = .ok (.aload_n 0, 1) := by decide +kernel
theorem dX8_step_1 : decode cX8_step 1 = .ok (.getfield 60, 3) := by decide +kernel
theorem dX8_step_4 : decode cX8_step 4 = .ok (.ifCond .le 4, 3) := by decide +kernel
theorem dX8_step_7 : decode cX8_step 7 = .ok (.return_, 1) := by decide +kernel
theorem dX8_step_8 : decode cX8_step 8 = .ok (.aload_n 0, 1) := by decide +kernel
theorem dX8_step_9 : decode cX8_step 9 = .ok (.aload_n 0, 1) := by decide +kernel
theorem dX8_step_10 : decode cX8_step 10 = .ok (.getfield 72, 3) := by decide +kernel
theorem dX8_step_13 : decode cX8_step 13 = .ok (.invokevirtual 75, 3) := by decide +kernel
theorem dX8_step_16 : decode cX8_step 16 = .ok (.bipush 32, 2) := by decide +kernel
theorem dX8_step_18 : decode cX8_step 18 = .ok (.if_icmp .ne 16, 3) := by decide +kernel
theorem dX8_step_21 : decode cX8_step 21 = .ok (.aload_n 0, 1) := by decide +kernel
theorem dX8_step_22 : decode cX8_step 22 = .ok (.dup, 1) := by decide +kernel
theorem dX8_step_23 : decode cX8_step 23 = .ok (.getfield 72, 3) := by decide +kernel
theorem dX8_step_26 : decode cX8_step 26 = .ok (.iconst 1, 1) := by decide +kernel
theorem dX8_step_27 : decode cX8_step 27 = .ok (.iadd, 1) := by decide +kernel
theorem dX8_step_28 : decode cX8_step 28 = .ok (.putfield 72, 3) := by decide +kernel
theorem dX8_step_31 : decode cX8_step 31 = .ok (.goto (-23), 3) := by decide +kernel
theorem dX8_step_34 : decode cX8_step 34 = .ok (.aload_n 0, 1) := by decide +kernel
theorem dX8_step_35 : decode cX8_step 35 = .ok (.aload_n 0, 1) := by decide +kernel
theorem dX8_step_36 : decode cX8_step 36 = .ok (.getfield 72, 3) := by decide +kernel
theorem dX8_step_39 : decode cX8_step 39 = .ok (.putfield 63, 3) := by decide +kernel
theorem dX8_step_42 : decode cX8_step 42 = .ok (.aload_n 0, 1) := by decide +kernel
theorem dX8_step_43 : decode cX8_step 43 = .ok (.aload_n 0, 1) := by decide +kernel
theorem dX8_step_44 : decode cX8_step 44 = .ok (.getfield 72, 3) := by decide +kernel
theorem dX8_step_47 : decode cX8_step 47 = .ok (.invokevirtual 75, 3) := by decide +kernel
theorem dX8_step_50 : decode cX8_step 50 = .ok (.istore_n 1, 1) := by decide +kernel
theorem dX8_step_51 : decode cX8_step 51 = .ok (.aload_n 0, 1) := by decide +kernel
theorem dX8_step_52 : decode cX8_step 52 = .ok (.iconst 0, 1) := by decide +kernel
theorem dX8_step_53 : decode cX8_step 53 = .ok (.putfield 79, 3) := by decide +kernel
theorem dX8_step_56 : decode cX8_step 56 = .ok (.iload_n 1, 1) := by decide +kernel
theorem dX8_step_57 : decode cX8_step 57 = .ok (.bipush (-4), 2) := by decide +kernel
theorem dX8_step_59 : decode cX8_step 59 = .ok (.if_icmp .ne 11, 3) := by decide +kernel
theorem dX8_step_62 : decode cX8_step 62 = .ok (.aload_n 0, 1) := by decide +kernel
theorem dX8_step_63 : decode cX8_step 63 = .ok (.iconst 0, 1) := by decide +kernel
theorem dX8_step_64 : decode cX8_step 64 = .ok (.putfield 69, 3) := by decide +kernel
theorem dX8_step_67 : decode cX8_step 67 = .ok (.goto 202, 3) := by decide +kernel
theorem dX8_step_70 : decode cX8_step 70 = .ok (.iload_n 1, 1) := by decide +kernel
theorem dX8_step_71 : decode cX8_step 71 = .ok (.i2l, 1) := by decide +kernel
theorem dX8_step_72 : decode cX8_step 72 = .ok (.ldc2_w 82, 3) := by decide +kernel
theorem dX8_step_75 : decode cX8_step 75 = .ok (.ldc2_w 84, 3) := by decide +kernel
theorem dX8_step_78 : decode cX8_step 78 = .ok (.invokestatic 52, 3) := by decide +kernel
theorem dX8_step_81 : decode cX8_step 81 = .ok (.ifCond .eq 45, 3) := by decide +kernel
theorem dX8_step_84 : decode cX8_step 84 = .ok (.aload_n 0, 1) := by decide +kernel
theorem dX8_step_85 : decode cX8_step 85 = .ok (.aload_n 0, 1) := by decide +kernel
theorem dX8_step_86 : decode cX8_step 86 = .ok (.getfield 72, 3) := by decide +kernel
theorem dX8_step_89 : decode cX8_step 89 = .ok (.invokevirtual 75, 3) := by decide +kernel
theorem dX8_step_92 : decode cX8_step 92 = .ok (.i2l, 1) := by decide +kernel
theorem dX8_step_93 : decode cX8_step 93 = .ok (.ldc2_w 82, 3) := by decide +kernel
theorem dX8_step_96 : decode cX8_step 96 = .ok (.ldc2_w 84, 3) := by decide +kernel
theorem dX8_step_99 : decode cX8_step 99 = .ok (.invokestatic 52, 3) := by decide +kernel
theorem dX8_step_102 : decode cX8_step 102 = .ok (.ifCond .eq 16, 3) := by decide +kernel
theorem dX8_step_105 : decode cX8_step 105 = .ok (.aload_n 0, 1) := by decide +kernel
theorem dX8_step_106 : decode cX8_step 106 = .ok (.dup, 1) := by decide +kernel
theorem dX8_step_107 : decode cX8_step 107 = .ok (.getfield 72, 3) := by decide +kernel
theorem dX8_step_110 : decode cX8_step 110 = .ok (.iconst 1, 1) := by decide +kernel
theorem dX8_step_111 : decode cX8_step 111 = .ok (.iadd, 1) := by decide +kernel
theorem dX8_step_112 : decode cX8_step 112 = .ok (.putfield 72, 3) := by decide +kernel
theorem dX8_step_115 : decode cX8_step 115 = .ok (.goto (-31), 3) := by decide +kernel
theorem dX8_step_118 : decode cX8_step 118 = .ok (.aload_n 0, 1) := by decide +kernel
theorem dX8_step_119 : decode cX8_step 119 = .ok (.iconst 1, 1) := by decide +kernel
theorem dX8_step_120 : decode cX8_step 120 = .ok (.putfield 69, 3) := by decide +kernel
theorem dX8_step_123 : decode cX8_step 123 = .ok (.goto 146, 3) := by decide +kernel
theorem dX8_step_126 : decode cX8_step 126 = .ok (.iload_n 1, 1) := by decide +kernel
theorem dX8_step_127 : decode cX8_step 127 = .ok (.i2l, 1) := by decide +kernel
theorem dX8_step_128 : decode cX8_step 128 = .ok (.ldc2_w 86, 3) := by decide +kernel
theorem dX8_step_131 : decode cX8_step 131 = .ok (.ldc2_w 88, 3) := by decide +kernel
theorem dX8_step_134 : decode cX8_step 134 = .ok (.invokestatic 52, 3) := by decide +kernel
theorem dX8_step_137 : decode cX8_step 137 = .ok (.ifCond .eq 106, 3) := by decide +kernel
theorem dX8_step_140 : decode cX8_step 140 = .ok (.aload_n 0, 1) := by decide +kernel
theorem dX8_step_141 : decode cX8_step 141 = .ok (.aload_n 0, 1) := by decide +kernel
theorem dX8_step_142 : decode cX8_step 142 = .ok (.getfield 72, 3) := by decide +kernel
theorem dX8_step_145 : decode cX8_step 145 = .ok (.invokevirtual 75, 3) := by decide +kernel
theorem dX8_step_148 : decode cX8_step 148 = .ok (.i2l, 1) := by decide +kernel
theorem dX8_step_149 : decode cX8_step 149 = .ok (.ldc2_w 86, 3) := by decide +kernel
theorem dX8_step_152 : decode cX8_step 152 = .ok (.ldc2_w 88, 3) := by decide +kernel
theorem dX8_step_155 : decode cX8_step 155 = .ok (.invokestatic 52, 3) := by decide +kernel
theorem dX8_step_158 : decode cX8_step 158 = .ok (.ifCond .eq 59, 3) := by decide +kernel
theorem dX8_step_161 : decode cX8_step 161 = .ok (.aload_n 0, 1) := by decide +kernel
theorem dX8_step_162 : decode cX8_step 162 = .ok (.aload_n 0, 1) := by decide +kernel
theorem dX8_step_163 : decode cX8_step 163 = .ok (.getfield 72, 3) := by decide +kernel
theorem dX8_step_166 : decode cX8_step 166 = .ok (.aload_n 0, 1) := by decide +kernel
theorem dX8_step_167 : decode cX8_step 167 = .ok (.getfield 63, 3) := by decide +kernel
theorem dX8_step_170 : decode cX8_step 170 = .ok (.isub, 1) := by decide +kernel
theorem dX8_step_171 : decode cX8_step 171 = .ok (.iconst 2, 1) := by decide +kernel
theorem dX8_step_172 : decode cX8_step 172 = .ok (.if_icmp .ge 25, 3) := by decide +kernel
theorem dX8_step_175 : decode cX8_step 175 = .ok (.bipush 10, 2) := by decide +kernel
theorem dX8_step_177 : decode cX8_step 177 = .ok (.aload_n 0, 1) := by decide +kernel
theorem dX8_step_178 : decode cX8_step 178 = .ok (.getfield 79, 3) := by decide +kernel
theorem dX8_step_181 : decode cX8_step 181 = .ok (.imul, 1) := by decide +kernel
theorem dX8_step_182 : decode cX8_step 182 = .ok (.aload_n 0, 1) := by decide +kernel
theorem dX8_step_183 : decode cX8_step 183 = .ok (.aload_n 0, 1) := by decide +kernel
theorem dX8_step_184 : decode cX8_step 184 = .ok (.getfield 72, 3) := by decide +kernel
theorem dX8_step_187 : decode cX8_step 187 = .ok (.invokevirtual 75, 3) := by decide +kernel
theorem dX8_step_190 : decode cX8_step 190 = .ok (.iadd, 1) := by decide +kernel
theorem dX8_step_191 : decode cX8_step 191 = .ok (.bipush 48, 2) := by decide +kernel
theorem dX8_step_193 : decode cX8_step 193 = .ok (.isub, 1) := by decide +kernel
theorem dX8_step_194 : decode cX8_step 194 = .ok (.goto 7, 3) := by decide +kernel
theorem dX8_step_197 : decode cX8_step 197 = .ok (.aload_n 0, 1) := by decide +kernel
theorem dX8_step_198 : decode cX8_step 198 = .ok (.getfield 79, 3) := by decide +kernel
theorem dX8_step_201 : decode cX8_step 201 = .ok (.putfield 79, 3) := by decide +kernel
theorem dX8_step_204 : decode cX8_step 204 = .ok (.aload_n 0, 1) := by decide +kernel
theorem dX8_step_205 : decode cX8_step 205 = .ok (.dup, 1) := by decide +kernel
theorem dX8_step_206 : decode cX8_step 206 = .ok (.getfield 72, 3) := by decide +kernel
theorem dX8_step_209 : decode cX8_step 209 = .ok (.iconst 1, 1) := by decide +kernel
theorem dX8_step_210 : decode cX8_step 210 = .ok (.iadd, 1) := by decide +kernel
theorem dX8_step_211 : decode cX8_step 211 = .ok (.putfield 72, 3) := by decide +kernel
theorem dX8_step_214 : decode cX8_step 214 = .ok (.goto (-74), 3) := by decide +kernel
theorem dX8_step_217 : decode cX8_step 217 = .ok (.aload_n 0, 1) := by decide +kernel
theorem dX8_step_218 : decode cX8_step 218 = .ok (.iconst 2, 1) := by decide +kernel
theorem dX8_step_219 : decode cX8_step 219 = .ok (.putfield 69, 3) := by decide +kernel
theorem dX8_step_222 : decode cX8_step 222 = .ok (.aload_n 0, 1) := by decide +kernel
theorem dX8_step_223 : decode cX8_step 223 = .ok (.getfield 72, 3) := by decide +kernel
theorem dX8_step_226 : decode cX8_step 226 = .ok (.aload_n 0, 1) := by decide +kernel
theorem dX8_step_227 : decode cX8_step 227 = .ok (.getfield 63, 3) := by decide +kernel
theorem dX8_step_230 : decode cX8_step 230 = .ok (.isub, 1) := by decide +kernel
theorem dX8_step_231 : decode cX8_step 231 = .ok (.iconst 2, 1) := by decide +kernel
theorem dX8_step_232 : decode cX8_step 232 = .ok (.if_icmp .le 37, 3) := by decide +kernel
theorem dX8_step_235 : decode cX8_step 235 = .ok (.aload_n 0, 1) := by decide +kernel
theorem dX8_step_236 : decode cX8_step 236 = .ok (.iconst 1, 1) := by decide +kernel
theorem dX8_step_237 : decode cX8_step 237 = .ok (.invokevirtual 90, 3) := by decide +kernel
theorem dX8_step_240 : decode cX8_step 240 = .ok (.goto 29, 3) := by decide +kernel
theorem dX8_step_243 : decode cX8_step 243 = .ok (.aload_n 0, 1) := by decide +kernel
theorem dX8_step_244 : decode cX8_step 244 = .ok (.iconst 3, 1) := by decide +kernel
theorem dX8_step_245 : decode cX8_step 245 = .ok (.putfield 69, 3) := by decide +kernel
theorem dX8_step_248 : decode cX8_step 248 = .ok (.aload_n 0, 1) := by decide +kernel
theorem dX8_step_249 : decode cX8_step 249 = .ok (.dup, 1) := by decide +kernel
theorem dX8_step_250 : decode cX8_step 250 = .ok (.getfield 72, 3) := by decide +kernel
theorem dX8_step_253 : decode cX8_step 253 = .ok (.iconst 1, 1) := by decide +kernel
theorem dX8_step_254 : decode cX8_step 254 = .ok (.iadd, 1) := by decide +kernel
theorem dX8_step_255 : decode cX8_step 255 = .ok (.putfield 72, 3) := by decide +kernel
theorem dX8_step_258 : decode cX8_step 258 = .ok (.iload_n 1, 1) := by decide +kernel
theorem dX8_step_259 : decode cX8_step 259 = .ok (.bipush 59, 2) := by decide +kernel
theorem dX8_step_261 : decode cX8_step 261 = .ok (.if_icmp .eq 8, 3) := by decide +kernel
theorem dX8_step_264 : decode cX8_step 264 = .ok (.aload_n 0, 1) := by decide +kernel
theorem dX8_step_265 : decode cX8_step 265 = .ok (.iconst 1, 1) := by decide +kernel
theorem dX8_step_266 : decode cX8_step 266 = .ok (.invokevirtual 90, 3) := by decide +kernel
theorem dX8_step_269 : decode cX8_step 269 = .ok (.return_, 1) := by decide +kernel
set_option maxRecDepth 20000 in
theorem ggX8_number_X8_fails : GoodIn wsX8_number wsX8_fails := goodIn_r _ [8, 1, 9, 10, 29, 30, 31, 32, 33, 34, 35, 36, 37, 38, 39, 40, 41, 42, 43, 44, 45, 46, 47, 48, 49, 50, 51, 52, 53, 54, 55, 56, 57, 58, 59, 60] (by decide +kernel) (by decide +kernel)
set_option maxRecDepth 20000 in
theorem gX8_number_X8_fails : GoodIn wsX8_number (wsV RX8 90 RX8 yX8_fails wsX8_fails) := goodIn_app (goodIn_of _ (by decide +kernel)) ggX8_number_X8_fails
set_option maxRecDepth 20000 in
theorem ggX8_number_X8_in : GoodIn wsX8_number wsX8_in := goodIn_r _ [13] (by decide +kernel) (by decide +kernel)
set_option maxRecDepth 20000 in
theorem gX8_number_X8_in : GoodIn wsX8_number (va_wsS RX8 52 yX8_in wsX8_in) := goodIn_app (goodIn_of _ (by decide +kernel)) ggX8_number_X8_in
set_option maxRecDepth 20000 in
theorem ggX8_number_X8_step : GoodIn wsX8_number wsX8_step := goodIn_r _ [17, 1, 18, 9, 3, 2, 19, 20, 21, 22, 23, 24, 25, 7, 26, 27, 28, 11, 12, 13, 4, 5, 6, 8, 10, 29, 30, 31, 32, 33, 34, 35, 36, 37, 38, 39, 40, 41, 42, 43, 44, 45, 46, 47, 48, 49, 50, 51, 52, 53, 54, 55, 56, 57, 58, 59, 60] (by decide +kernel) (by decide +kernel)
set_option maxRecDepth 20000 in
theorem gX8_number_X8_step : GoodIn wsX8_number (wsV RX8 94 RX8 yX8_step wsX8_step) := goodIn_app (goodIn_of _ (by decide +kernel)) ggX8_number_X8_step
theorem dX8_number_0 : decode cX8_number 0 = .ok (.aload_n 0, 1) := by decide +kernel
theorem dX8_number_1 : decode cX8_number 1 = .ok (.getfield 60, 3) := by decide +kernel
theorem dX8_number_4 : decode cX8_number 4 = .ok (.ifCond .ne 16, 3) := by decide +kernel
theorem dX8_number_7 : decode cX8_number 7 = .ok (.aload_n 0, 1) := by decide +kernel
theorem dX8_number_8 : decode cX8_number 8 = .ok (.getfield 69, 3) := by decide +kernel
theorem dX8_number_11 : decode cX8_number 11 = .ok (.iconst 2, 1) := by decide +kernel
theorem dX8_number_12 : decode cX8_number 12 = .ok (.if_icmp .eq 8, 3) := by decide +kernel
theorem dX8_number_15 : decode cX8_number 15 = .ok (.aload_n 0, 1) := by decide +kernel
theorem dX8_number_16 : decode cX8_number 16 = .ok (.iconst 2, 1) := by decide +kernel
theorem dX8_number_17 : decode cX8_number 17 = .ok (.invokevirtual 90, 3) := by decide +kernel
theorem dX8_number_20 : decode cX8_number 20 = .ok (.aload_n 0, 1) := by decide +kernel
theorem dX8_number_21 : decode cX8_number 21 = .ok (.getfield 60, 3) := by decide +kernel
theorem dX8_number_24 : decode cX8_number 24 = .ok (.ifCond .ne 23, 3) := by decide +kernel
theorem dX8_number_27 : decode cX8_number 27 = .ok (.aload_n 0, 1) := by decide +kernel
theorem dX8_number_28 : decode cX8_number 28 = .ok (.getfield 79, 3) := by decide +kernel
theorem dX8_number_31 : decode cX8_number 31 = .ok (.i2l, 1) := by decide +kernel
theorem dX8_number_32 : decode cX8_number 32 = .ok (.iload_n 1, 1) := by decide +kernel
theorem dX8_number_33 : decode cX8_number 33 = .ok (.i2l, 1) := by decide +kernel
theorem dX8_number_34 : decode cX8_number 34 = .ok (.iload_n 2, 1) := by decide +kernel
theorem dX8_number_35 : decode cX8_number 35 = .ok (.i2l, 1) := by decide +kernel
theorem dX8_number_36 : decode cX8_number 36 = .ok (.invokestatic 52, 3) := by decide +kernel
theorem dX8_number_39 : decode cX8_number 39 = .ok (.ifCond .ne 8, 3) := by decide +kernel
theorem dX8_number_42 : decode cX8_number 42 = .ok (.aload_n 0, 1) := by decide +kernel
theorem dX8_number_43 : decode cX8_number 43 = .ok (.iconst 3, 1) := by decide +kernel
theorem dX8_number_44 : decode cX8_number 44 = .ok (.invokevirtual 90, 3) := by decide +kernel
theorem dX8_number_47 : decode cX8_number 47 = .ok (.aload_n 0, 1) := by decide +kernel
theorem dX8_number_48 : decode cX8_number 48 = .ok (.getfield 60, 3) := by decide +kernel
theorem dX8_number_51 : decode cX8_number 51 = .ok (.ifCond .ne 10, 3) := by decide +kernel
theorem dX8_number_54 : decode cX8_number 54 = .ok (.aload_n 0, 1) := by decide +kernel
theorem dX8_number_55 : decode cX8_number 55 = .ok (.getfield 79, 3) := by decide +kernel
theorem dX8_number_58 : decode cX8_number 58 = .ok (.goto 4, 3) := by decide +kernel
theorem dX8_number_61 : decode cX8_number 61 = .ok (.iload_n 1, 1) := by decide +kernel
theorem dX8_number_62 : decode cX8_number 62 = .ok (.istore_n 3, 1) := by decide +kernel
theorem dX8_number_63 : decode cX8_number 63 = .ok (.aload_n 0, 1) := by decide +kernel
theorem dX8_number_64 : decode cX8_number 64 = .ok (.invokevirtual 94, 3) := by decide +kernel
theorem dX8_number_67 : decode cX8_number 67 = .ok (.iload_n 3, 1) := by decide +kernel
theorem dX8_number_68 : decode cX8_number 68 = .ok (.ireturn, 1) := by decide +kernel
set_option maxRecDepth 20000 in
theorem ggX8_readBorough_X8_number : GoodIn wsX8_readBorough wsX8_number := goodIn_r _ [10, 3, 4, 11, 12, 13, 14, 9, 15, 16, 17, 18, 19, 20, 21, 22, 23, 24, 25, 26, 27, 28, 29, 30, 31, 32, 33, 34, 35, 36, 37, 38, 39, 40, 41, 42, 43, 44, 45, 46, 47, 48, 49, 50, 51, 52, 53, 54, 55, 56, 57, 58, 59, 60, 61, 62, 63, 64, 65, 66, 67] (by decide +kernel) (by decide +kernel)
set_option maxRecDepth 20000 in
theorem gX8_readBorough_X8_number : GoodIn wsX8_readBorough (wsV RX8 100 RX8 yX8_number wsX8_number) := goodIn_app (goodIn_of _ (by decide +kernel)) ggX8_readBorough_X8_number
theorem dX8_readBorough_0 : decode cX8_readBorough 0 = .ok (.aload_n 0, 1) := by decide +kernel
theorem dX8_readBorough_1 : decode cX8_readBorough 1 = .ok (.getfield 13, 3) := by decide +kernel
theorem dX8_readBorough_4 : decode cX8_readBorough 4 = .ok (.iconst 4, 1) := by decide +kernel
theorem dX8_readBorough_5 : decode cX8_readBorough 5 = .ok (.aload_n 0, 1) := by decide +kernel
theorem dX8_readBorough_6 : decode cX8_readBorough 6 = .ok (.getfield 97, 3) := by decide +kernel
theorem dX8_readBorough_9 : decode cX8_readBorough 9 = .ok (.iadd, 1) := by decide +kernel
theorem dX8_readBorough_10 : decode cX8_readBorough 10 = .ok (.iload_n 1, 1) := by decide +kernel
theorem dX8_readBorough_11 : decode cX8_readBorough 11 = .ok (.iastore, 1) := by decide +kernel
theorem dX8_readBorough_12 : decode cX8_readBorough 12 = .ok (.aload_n 0, 1) := by decide +kernel
theorem dX8_readBorough_13 : decode cX8_readBorough 13 = .ok (.getfield 13, 3) := by decide +kernel
theorem dX8_readBorough_16 : decode cX8_readBorough 16 = .ok (.bipush 10, 2) := by decide +kernel
theorem dX8_readBorough_18 : decode cX8_readBorough 18 = .ok (.aload_n 0, 1) := by decide +kernel
theorem dX8_readBorough_19 : decode cX8_readBorough 19 = .ok (.getfield 97, 3) := by decide +kernel
theorem dX8_readBorough_22 : decode cX8_readBorough 22 = .ok (.iadd, 1) := by decide +kernel
theorem dX8_readBorough_23 : decode cX8_readBorough 23 = .ok (.aload_n 0, 1) := by decide +kernel
theorem dX8_readBorough_24 : decode cX8_readBorough 24 = .ok (.iconst 1, 1) := by decide +kernel
theorem dX8_readBorough_25 : decode cX8_readBorough 25 = .ok (.bipush 9, 2) := by decide +kernel
theorem dX8_readBorough_27 : decode cX8_readBorough 27 = .ok (.invokevirtual 100, 3) := by decide +kernel
theorem dX8_readBorough_30 : decode cX8_readBorough 30 = .ok (.iastore, 1) := by decide +kernel
theorem dX8_readBorough_31 : decode cX8_readBorough 31 = .ok (.aload_n 0, 1) := by decide +kernel
theorem dX8_readBorough_32 : decode cX8_readBorough 32 = .ok (.getfield 13, 3) := by decide +kernel
theorem dX8_readBorough_35 : decode cX8_readBorough 35 = .ok (.bipush 16, 2) := by decide +kernel
theorem dX8_readBorough_37 : decode cX8_readBorough 37 = .ok (.aload_n 0, 1) := by decide +kernel
theorem dX8_readBorough_38 : decode cX8_readBorough 38 = .ok (.getfield 97, 3) := by decide +kernel
theorem dX8_readBorough_41 : decode cX8_readBorough 41 = .ok (.iadd, 1) := by decide +kernel
theorem dX8_readBorough_42 : decode cX8_readBorough 42 = .ok (.aload_n 0, 1) := by decide +kernel
theorem dX8_readBorough_43 : decode cX8_readBorough 43 = .ok (.iconst 0, 1) := by decide +kernel
theorem dX8_readBorough_44 : decode cX8_readBorough 44 = .ok (.iconst 3, 1) := by decide +kernel
theorem dX8_readBorough_45 : decode cX8_readBorough 45 = .ok (.invokevirtual 100, 3) := by decide +kernel
theorem dX8_readBorough_48 : decode cX8_readBorough 48 = .ok (.iastore, 1) := by decide +kernel
theorem dX8_readBorough_49 : decode cX8_readBorough 49 = .ok (.aload_n 0, 1) := by decide +kernel
theorem dX8_readBorough_50 : decode cX8_readBorough 50 = .ok (.getfield 60, 3) := by decide +kernel
theorem dX8_readBorough_53 : decode cX8_readBorough 53 = .ok (.ifCond .ne 53, 3) := by decide +kernel
theorem dX8_readBorough_56 : decode cX8_readBorough 56 = .ok (.aload_n 0, 1) := by decide +kernel
theorem dX8_readBorough_57 : decode cX8_readBorough 57 = .ok (.getfield 69, 3) := by decide +kernel
theorem dX8_readBorough_60 : decode cX8_readBorough 60 = .ok (.iconst 2, 1) := by decide +kernel
theorem dX8_readBorough_61 : decode cX8_readBorough 61 = .ok (.if_icmp .ne 45, 3) := by decide +kernel
theorem dX8_readBorough_64 : decode cX8_readBorough 64 = .ok (.aload_n 0, 1) := by decide +kernel
theorem dX8_readBorough_65 : decode cX8_readBorough 65 = .ok (.iconst 0, 1) := by decide +kernel
theorem dX8_readBorough_66 : decode cX8_readBorough 66 = .ok (.iconst 3, 1) := by decide +kernel
theorem dX8_readBorough_67 : decode cX8_readBorough 67 = .ok (.invokevirtual 100, 3) := by decide +kernel
theorem dX8_readBorough_70 : decode cX8_readBorough 70 = .ok (.istore_n 2, 1) := by decide +kernel
theorem dX8_readBorough_71 : decode cX8_readBorough 71 = .ok (.aload_n 0, 1) := by decide +kernel
theorem dX8_readBorough_72 : decode cX8_readBorough 72 = .ok (.iload_n 2, 1) := by decide +kernel
theorem dX8_readBorough_73 : decode cX8_readBorough 73 = .ok (.aload_n 0, 1) := by decide +kernel
theorem dX8_readBorough_74 : decode cX8_readBorough 74 = .ok (.getfield 104, 3) := by decide +kernel
theorem dX8_readBorough_77 : decode cX8_readBorough 77 = .ok (.if_icmp .le 7, 3) := by decide +kernel
theorem dX8_readBorough_80 : decode cX8_readBorough 80 = .ok (.iload_n 2, 1) := by decide +kernel
theorem dX8_readBorough_81 : decode cX8_readBorough 81 = .ok (.goto 7, 3) := by decide +kernel
theorem dX8_readBorough_84 : decode cX8_readBorough 84 = .ok (.aload_n 0, 1) := by decide +kernel
theorem dX8_readBorough_85 : decode cX8_readBorough 85 = .ok (.getfield 104, 3) := by decide +kernel
theorem dX8_readBorough_88 : decode cX8_readBorough 88 = .ok (.putfield 104, 3) := by decide +kernel
theorem dX8_readBorough_91 : decode cX8_readBorough 91 = .ok (.aload_n 0, 1) := by decide +kernel
theorem dX8_readBorough_92 : decode cX8_readBorough 92 = .ok (.getfield 13, 3) := by decide +kernel
theorem dX8_readBorough_95 : decode cX8_readBorough 95 = .ok (.bipush 22, 2) := by decide +kernel
theorem dX8_readBorough_97 : decode cX8_readBorough 97 = .ok (.aload_n 0, 1) := by decide +kernel
theorem dX8_readBorough_98 : decode cX8_readBorough 98 = .ok (.getfield 97, 3) := by decide +kernel
theorem dX8_readBorough_101 : decode cX8_readBorough 101 = .ok (.iadd, 1) := by decide +kernel
theorem dX8_readBorough_102 : decode cX8_readBorough 102 = .ok (.iload_n 2, 1) := by decide +kernel
theorem dX8_readBorough_103 : decode cX8_readBorough 103 = .ok (.iconst 1, 1) := by decide +kernel
theorem dX8_readBorough_104 : decode cX8_readBorough 104 = .ok (.iadd, 1) := by decide +kernel
theorem dX8_readBorough_105 : decode cX8_readBorough 105 = .ok (.iastore, 1) := by decide +kernel
theorem dX8_readBorough_106 : decode cX8_readBorough 106 = .ok (.aload_n 0, 1) := by decide +kernel
theorem dX8_readBorough_107 : decode cX8_readBorough 107 = .ok (.dup, 1) := by decide +kernel
theorem dX8_readBorough_108 : decode cX8_readBorough 108 = .ok (.getfield 97, 3) := by decide +kernel
theorem dX8_readBorough_111 : decode cX8_readBorough 111 = .ok (.iconst 1, 1) := by decide +kernel
theorem dX8_readBorough_112 : decode cX8_readBorough 112 = .ok (.iadd, 1) := by decide +kernel
theorem dX8_readBorough_113 : decode cX8_readBorough 113 = .ok (.putfield 97, 3) := by decide +kernel
theorem dX8_readBorough_116 : decode cX8_readBorough 116 = .ok (.return_, 1) := by decide +kernel
set_option maxRecDepth 20000 in
theorem ggX8_readLine_X8_nameHere : GoodIn wsX8_readLine wsX8_nameHere := goodIn_r _ [12, 7, 13, 14, 15, 16, 17, 18, 19, 11, 20, 21, 22, 49, 50, 51, 52, 53, 54, 55, 56, 57, 58, 59, 60, 61, 62, 63, 64, 65, 66, 67, 68, 69, 70, 71, 72, 73, 74, 75, 76, 77, 78, 79, 80] (by decide +kernel) (by decide +kernel)
set_option maxRecDepth 20000 in
theorem gX8_readLine_X8_nameHere : GoodIn wsX8_readLine (wsV RX8 107 RX8 yX8_nameHere wsX8_nameHere) := goodIn_app (goodIn_of _ (by decide +kernel)) ggX8_readLine_X8_nameHere
set_option maxRecDepth 20000 in
theorem ggX8_readLine_X8_in : GoodIn wsX8_readLine wsX8_in := goodIn_r _ [25] (by decide +kernel) (by decide +kernel)
set_option maxRecDepth 20000 in
theorem gX8_readLine_X8_in : GoodIn wsX8_readLine (va_wsS RX8 52 yX8_in wsX8_in) := goodIn_app (goodIn_of _ (by decide +kernel)) ggX8_readLine_X8_in
set_option maxRecDepth 20000 in
theorem ggX8_readLine_X8_fails : GoodIn wsX8_readLine wsX8_fails := goodIn_r _ [29, 5, 14, 30, 49, 50, 51, 52, 53, 54, 55, 56, 57, 58, 59, 60, 61, 62, 63, 64, 65, 66, 67, 68, 69, 70, 71, 72, 73, 74, 75, 76, 77, 78, 79, 80] (by decide +kernel) (by decide +kernel)
set_option maxRecDepth 20000 in
theorem gX8_readLine_X8_fails : GoodIn wsX8_readLine (wsV RX8 90 RX8 yX8_fails wsX8_fails) := goodIn_app (goodIn_of _ (by decide +kernel)) ggX8_readLine_X8_fails
set_option maxRecDepth 20000 in
theorem ggX8_readLine_X8_step : GoodIn wsX8_readLine wsX8_step := goodIn_r _ [34, 5, 13, 14, 35, 7, 36, 37, 38, 39, 17, 18, 19, 11, 20, 21, 22, 23, 24, 25, 26, 27, 28, 29, 30, 49, 50, 51, 52, 53, 54, 55, 56, 57, 58, 59, 60, 61, 62, 63, 64, 65, 66, 67, 68, 69, 70, 71, 72, 73, 74, 75, 76, 77, 78, 79, 80] (by decide +kernel) (by decide +kernel)
set_option maxRecDepth 20000 in
theorem gX8_readLine_X8_step : GoodIn wsX8_readLine (wsV RX8 94 RX8 yX8_step wsX8_step) := goodIn_app (goodIn_of _ (by decide +kernel)) ggX8_readLine_X8_step
set_option maxRecDepth 20000 in
theorem ggX8_readLine_X8_readBorough : GoodIn wsX8_readLine wsX8_readBorough := goodIn_r _ [43, 6, 3, 5, 7, 44, 45, 46, 47, 11, 48, 35, 26, 27, 28, 29, 14, 30, 23, 24, 25, 31, 32, 33, 34, 13, 36, 37, 38, 39, 17, 18, 19, 20, 21, 22, 49, 50, 51, 52, 53, 54, 55, 56, 57, 58, 59, 60, 61, 62, 63, 64, 65, 66, 67, 68, 69, 70, 71, 72, 73, 74, 75, 76, 77, 78, 79, 80] (by decide +kernel) (by decide +kernel)
set_option maxRecDepth 20000 in
theorem gX8_readLine_X8_readBorough : GoodIn wsX8_readLine (wsV RX8 120 RX8 yX8_readBorough wsX8_readBorough) := goodIn_app (goodIn_of _ (by decide +kernel)) ggX8_readLine_X8_readBorough
set_option maxRecDepth 20000 in
theorem ggX8_readLine_X8_number : GoodIn wsX8_readLine wsX8_number := goodIn_r _ [48, 5, 7, 35, 26, 27, 28, 11, 29, 14, 30, 23, 24, 25, 31, 32, 33, 34, 13, 36, 37, 38, 39, 17, 18, 19, 20, 21, 22, 49, 50, 51, 52, 53, 54, 55, 56, 57, 58, 59, 60, 61, 62, 63, 64, 65, 66, 67, 68, 69, 70, 71, 72, 73, 74, 75, 76, 77, 78, 79, 80] (by decide +kernel) (by decide +kernel)
set_option maxRecDepth 20000 in
theorem gX8_readLine_X8_number : GoodIn wsX8_readLine (wsV RX8 100 RX8 yX8_number wsX8_number) := goodIn_app (goodIn_of _ (by decide +kernel)) ggX8_readLine_X8_number
theorem dX8_readLine_0 : decode cX8_readLine 0 = .ok (.aload_n 0, 1) := by decide +kernel
theorem dX8_readLine_1 : decode cX8_readLine 1 = .ok (.invokevirtual 107, 3) := by decide +kernel
theorem dX8_readLine_4 : decode cX8_readLine 4 = .ok (.istore_n 1, 1) := by decide +kernel
theorem dX8_readLine_5 : decode cX8_readLine 5 = .ok (.iload_n 1, 1) := by decide +kernel
theorem dX8_readLine_6 : decode cX8_readLine 6 = .ok (.i2l, 1) := by decide +kernel
theorem dX8_readLine_7 : decode cX8_readLine 7 = .ok (.lconst 0, 1) := by decide +kernel
theorem dX8_readLine_8 : decode cX8_readLine 8 = .ok (.ldc2_w 111, 3) := by decide +kernel
theorem dX8_readLine_11 : decode cX8_readLine 11 = .ok (.invokestatic 52, 3) := by decide +kernel
theorem dX8_readLine_14 : decode cX8_readLine 14 = .ok (.ifCond .ne 9, 3) := by decide +kernel
theorem dX8_readLine_17 : decode cX8_readLine 17 = .ok (.aload_n 0, 1) := by decide +kernel
theorem dX8_readLine_18 : decode cX8_readLine 18 = .ok (.iconst 2, 1) := by decide +kernel
theorem dX8_readLine_19 : decode cX8_readLine 19 = .ok (.invokevirtual 90, 3) := by decide +kernel
theorem dX8_readLine_22 : decode cX8_readLine 22 = .ok (.return_, 1) := by decide +kernel
theorem dX8_readLine_23 : decode cX8_readLine 23 = .ok (.iload_n 1, 1) := by decide +kernel
theorem dX8_readLine_24 : decode cX8_readLine 24 = .ok (.iconst 4, 1) := by decide +kernel
theorem dX8_readLine_25 : decode cX8_readLine 25 = .ok (.if_icmp .ne 11, 3) := by decide +kernel
theorem dX8_readLine_28 : decode cX8_readLine 28 = .ok (.aload_n 0, 1) := by decide +kernel
theorem dX8_readLine_29 : decode cX8_readLine 29 = .ok (.getfield 113, 3) := by decide +kernel
theorem dX8_readLine_32 : decode cX8_readLine 32 = .ok (.iconst 4, 1) := by decide +kernel
theorem dX8_readLine_33 : decode cX8_readLine 33 = .ok (.if_icmp .eq 17, 3) := by decide +kernel
theorem dX8_readLine_36 : decode cX8_readLine 36 = .ok (.iload_n 1, 1) := by decide +kernel
theorem dX8_readLine_37 : decode cX8_readLine 37 = .ok (.iconst 3, 1) := by decide +kernel
theorem dX8_readLine_38 : decode cX8_readLine 38 = .ok (.if_icmp .gt 17, 3) := by decide +kernel
theorem dX8_readLine_41 : decode cX8_readLine 41 = .ok (.aload_n 0, 1) := by decide +kernel
theorem dX8_readLine_42 : decode cX8_readLine 42 = .ok (.getfield 97, 3) := by decide +kernel
theorem dX8_readLine_45 : decode cX8_readLine 45 = .ok (.bipush 6, 2) := by decide +kernel
theorem dX8_readLine_47 : decode cX8_readLine 47 = .ok (.if_icmp .ne 8, 3) := by decide +kernel
theorem dX8_readLine_50 : decode cX8_readLine 50 = .ok (.aload_n 0, 1) := by decide +kernel
theorem dX8_readLine_51 : decode cX8_readLine 51 = .ok (.iconst 5, 1) := by decide +kernel
theorem dX8_readLine_52 : decode cX8_readLine 52 = .ok (.invokevirtual 90, 3) := by decide +kernel
theorem dX8_readLine_55 : decode cX8_readLine 55 = .ok (.iload_n 1, 1) := by decide +kernel
theorem dX8_readLine_56 : decode cX8_readLine 56 = .ok (.iconst 5, 1) := by decide +kernel
theorem dX8_readLine_57 : decode cX8_readLine 57 = .ok (.if_icmp .ne 15, 3) := by decide +kernel
theorem dX8_readLine_60 : decode cX8_readLine 60 = .ok (.aload_n 0, 1) := by decide +kernel
theorem dX8_readLine_61 : decode cX8_readLine 61 = .ok (.getfield 116, 3) := by decide +kernel
theorem dX8_readLine_64 : decode cX8_readLine 64 = .ok (.ifCond .eq 8, 3) := by decide +kernel
theorem dX8_readLine_67 : decode cX8_readLine 67 = .ok (.aload_n 0, 1) := by decide +kernel
theorem dX8_readLine_68 : decode cX8_readLine 68 = .ok (.iconst 4, 1) := by decide +kernel
theorem dX8_readLine_69 : decode cX8_readLine 69 = .ok (.invokevirtual 90, 3) := by decide +kernel
theorem dX8_readLine_72 : decode cX8_readLine 72 = .ok (.aload_n 0, 1) := by decide +kernel
theorem dX8_readLine_73 : decode cX8_readLine 73 = .ok (.aload_n 0, 1) := by decide +kernel
theorem dX8_readLine_74 : decode cX8_readLine 74 = .ok (.getfield 116, 3) := by decide +kernel
theorem dX8_readLine_77 : decode cX8_readLine 77 = .ok (.ifCond .ne 8, 3) := by decide +kernel
theorem dX8_readLine_80 : decode cX8_readLine 80 = .ok (.iload_n 1, 1) := by decide +kernel
theorem dX8_readLine_81 : decode cX8_readLine 81 = .ok (.iconst 5, 1) := by decide +kernel
theorem dX8_readLine_82 : decode cX8_readLine 82 = .ok (.if_icmp .ne 7, 3) := by decide +kernel
theorem dX8_readLine_85 : decode cX8_readLine 85 = .ok (.iconst 1, 1) := by decide +kernel
theorem dX8_readLine_86 : decode cX8_readLine 86 = .ok (.goto 4, 3) := by decide +kernel
theorem dX8_readLine_89 : decode cX8_readLine 89 = .ok (.iconst 0, 1) := by decide +kernel
theorem dX8_readLine_90 : decode cX8_readLine 90 = .ok (.putfield 116, 3) := by decide +kernel
theorem dX8_readLine_93 : decode cX8_readLine 93 = .ok (.aload_n 0, 1) := by decide +kernel
theorem dX8_readLine_94 : decode cX8_readLine 94 = .ok (.invokevirtual 94, 3) := by decide +kernel
theorem dX8_readLine_97 : decode cX8_readLine 97 = .ok (.aload_n 0, 1) := by decide +kernel
theorem dX8_readLine_98 : decode cX8_readLine 98 = .ok (.getfield 60, 3) := by decide +kernel
theorem dX8_readLine_101 : decode cX8_readLine 101 = .ok (.ifCond .le 4, 3) := by decide +kernel
theorem dX8_readLine_104 : decode cX8_readLine 104 = .ok (.return_, 1) := by decide +kernel
theorem dX8_readLine_105 : decode cX8_readLine 105 = .ok (.iload_n 1, 1) := by decide +kernel
theorem dX8_readLine_106 : decode cX8_readLine 106 = .ok (.iconst 3, 1) := by decide +kernel
theorem dX8_readLine_107 : decode cX8_readLine 107 = .ok (.if_icmp .gt 11, 3) := by decide +kernel
theorem dX8_readLine_110 : decode cX8_readLine 110 = .ok (.aload_n 0, 1) := by decide +kernel
theorem dX8_readLine_111 : decode cX8_readLine 111 = .ok (.iload_n 1, 1) := by decide +kernel
theorem dX8_readLine_112 : decode cX8_readLine 112 = .ok (.invokevirtual 120, 3) := by decide +kernel
theorem dX8_readLine_115 : decode cX8_readLine 115 = .ok (.goto 53, 3) := by decide +kernel
theorem dX8_readLine_118 : decode cX8_readLine 118 = .ok (.iload_n 1, 1) := by decide +kernel
theorem dX8_readLine_119 : decode cX8_readLine 119 = .ok (.iconst 4, 1) := by decide +kernel
theorem dX8_readLine_120 : decode cX8_readLine 120 = .ok (.if_icmp .ne 32, 3) := by decide +kernel
theorem dX8_readLine_123 : decode cX8_readLine 123 = .ok (.aload_n 0, 1) := by decide +kernel
theorem dX8_readLine_124 : decode cX8_readLine 124 = .ok (.getfield 13, 3) := by decide +kernel
theorem dX8_readLine_127 : decode cX8_readLine 127 = .ok (.aload_n 0, 1) := by decide +kernel
theorem dX8_readLine_128 : decode cX8_readLine 128 = .ok (.getfield 113, 3) := by decide +kernel
theorem dX8_readLine_131 : decode cX8_readLine 131 = .ok (.aload_n 0, 1) := by decide +kernel
theorem dX8_readLine_132 : decode cX8_readLine 132 = .ok (.iconst 0, 1) := by decide +kernel
theorem dX8_readLine_133 : decode cX8_readLine 133 = .ok (.bipush 99, 2) := by decide +kernel
theorem dX8_readLine_135 : decode cX8_readLine 135 = .ok (.invokevirtual 100, 3) := by decide +kernel
theorem dX8_readLine_138 : decode cX8_readLine 138 = .ok (.iastore, 1) := by decide +kernel
theorem dX8_readLine_139 : decode cX8_readLine 139 = .ok (.aload_n 0, 1) := by decide +kernel
theorem dX8_readLine_140 : decode cX8_readLine 140 = .ok (.dup, 1) := by decide +kernel
theorem dX8_readLine_141 : decode cX8_readLine 141 = .ok (.getfield 113, 3) := by decide +kernel
theorem dX8_readLine_144 : decode cX8_readLine 144 = .ok (.iconst 1, 1) := by decide +kernel
theorem dX8_readLine_145 : decode cX8_readLine 145 = .ok (.iadd, 1) := by decide +kernel
theorem dX8_readLine_146 : decode cX8_readLine 146 = .ok (.putfield 113, 3) := by decide +kernel
theorem dX8_readLine_149 : decode cX8_readLine 149 = .ok (.goto 19, 3) := by decide +kernel
theorem dX8_readLine_152 : decode cX8_readLine 152 = .ok (.aload_n 0, 1) := by decide +kernel
theorem dX8_readLine_153 : decode cX8_readLine 153 = .ok (.getfield 13, 3) := by decide +kernel
theorem dX8_readLine_156 : decode cX8_readLine 156 = .ok (.bipush 28, 2) := by decide +kernel
theorem dX8_readLine_158 : decode cX8_readLine 158 = .ok (.aload_n 0, 1) := by decide +kernel
theorem dX8_readLine_159 : decode cX8_readLine 159 = .ok (.iconst 0, 1) := by decide +kernel
theorem dX8_readLine_160 : decode cX8_readLine 160 = .ok (.bipush 9, 2) := by decide +kernel
theorem dX8_readLine_162 : decode cX8_readLine 162 = .ok (.invokevirtual 100, 3) := by decide +kernel
theorem dX8_readLine_165 : decode cX8_readLine 165 = .ok (.iconst 3, 1) := by decide +kernel
theorem dX8_readLine_166 : decode cX8_readLine 166 = .ok (.isub, 1) := by decide +kernel
theorem dX8_readLine_167 : decode cX8_readLine 167 = .ok (.iastore, 1) := by decide +kernel
theorem dX8_readLine_168 : decode cX8_readLine 168 = .ok (.aload_n 0, 1) := by decide +kernel
theorem dX8_readLine_169 : decode cX8_readLine 169 = .ok (.getfield 60, 3) := by decide +kernel
theorem dX8_readLine_172 : decode cX8_readLine 172 = .ok (.ifCond .ne 16, 3) := by decide +kernel
theorem dX8_readLine_175 : decode cX8_readLine 175 = .ok (.aload_n 0, 1) := by decide +kernel
theorem dX8_readLine_176 : decode cX8_readLine 176 = .ok (.getfield 69, 3) := by decide +kernel
theorem dX8_readLine_179 : decode cX8_readLine 179 = .ok (.iconst 3, 1) := by decide +kernel
theorem dX8_readLine_180 : decode cX8_readLine 180 = .ok (.if_icmp .eq 8, 3) := by decide +kernel
theorem dX8_readLine_183 : decode cX8_readLine 183 = .ok (.aload_n 0, 1) := by decide +kernel
theorem dX8_readLine_184 : decode cX8_readLine 184 = .ok (.iconst 2, 1) := by decide +kernel
theorem dX8_readLine_185 : decode cX8_readLine 185 = .ok (.invokevirtual 90, 3) := by decide +kernel
theorem dX8_readLine_188 : decode cX8_readLine 188 = .ok (.aload_n 0, 1) := by decide +kernel
theorem dX8_readLine_189 : decode cX8_readLine 189 = .ok (.invokevirtual 94, 3) := by decide +kernel
theorem dX8_readLine_192 : decode cX8_readLine 192 = .ok (.return_, 1) := by decide +kernel
set_option maxRecDepth 20000 in
theorem ggX8_text_X8_step : GoodIn wsX8_text wsX8_step := goodIn_r _ [21, 1, 2, 22, 23, 8, 24, 25, 26, 27, 28, 29, 30, 20, 31, 9, 32, 33, 34, 35, 36, 37, 38, 39, 11, 59, 60, 61, 62, 63, 64, 65, 66, 67, 68, 69, 70, 71, 72, 73, 74, 75, 76, 77, 78, 79, 80, 81, 82, 83, 84, 85, 86, 87, 88, 89, 90] (by decide +kernel) (by decide +kernel)
set_option maxRecDepth 20000 in
theorem gX8_text_X8_step : GoodIn wsX8_text (wsV RX8 94 RX8 yX8_step wsX8_step) := goodIn_app (goodIn_of _ (by decide +kernel)) ggX8_text_X8_step
set_option maxRecDepth 20000 in
theorem ggX8_text_X8_readLine : GoodIn wsX8_text wsX8_readLine := goodIn_r _ [43, 44, 3, 4, 5, 1, 7, 8, 45, 46, 47, 20, 48, 2, 22, 49, 50, 28, 29, 30, 31, 9, 32, 33, 34, 35, 36, 37, 38, 39, 11, 17, 18, 19, 21, 23, 24, 25, 26, 27, 51, 52, 53, 54, 6, 55, 56, 57, 58, 59, 60, 61, 62, 63, 64, 65, 66, 67, 68, 69, 70, 71, 72, 73, 74, 75, 76, 77, 78, 79, 80, 81, 82, 83, 84, 85, 86, 87, 88, 89, 90] (by decide +kernel) (by decide +kernel)
set_option maxRecDepth 20000 in
theorem gX8_text_X8_readLine : GoodIn wsX8_text (wsV RX8 123 RX8 yX8_readLine wsX8_readLine) := goodIn_app (goodIn_of _ (by decide +kernel)) ggX8_text_X8_readLine
set_option maxRecDepth 20000 in
theorem ggX8_text_X8_fails : GoodIn wsX8_text wsX8_fails := goodIn_r _ [39, 1, 22, 11, 59, 60, 61, 62, 63, 64, 65, 66, 67, 68, 69, 70, 71, 72, 73, 74, 75, 76, 77, 78, 79, 80, 81, 82, 83, 84, 85, 86, 87, 88, 89, 90] (by decide +kernel) (by decide +kernel)
set_option maxRecDepth 20000 in
theorem gX8_text_X8_fails : GoodIn wsX8_text (wsV RX8 90 RX8 yX8_fails wsX8_fails) := goodIn_app (goodIn_of _ (by decide +kernel)) ggX8_text_X8_fails
theorem dX8_text_0 : decode cX8_text 0 = .ok (.aload_n 0, 1) := by decide +kernel
theorem dX8_text_1 : decode cX8_text 1 = .ok (.iconst 0, 1) := by decide +kernel
theorem dX8_text_2 : decode cX8_text 2 = .ok (.putfield 60, 3) := by decide +kernel
theorem dX8_text_5 : decode cX8_text 5 = .ok (.aload_n 0, 1) := by decide +kernel
theorem dX8_text_6 : decode cX8_text 6 = .ok (.iconst 0, 1) := by decide +kernel
theorem dX8_text_7 : decode cX8_text 7 = .ok (.putfield 72, 3) := by decide +kernel
theorem dX8_text_10 : decode cX8_text 10 = .ok (.aload_n 0, 1) := by decide +kernel
theorem dX8_text_11 : decode cX8_text 11 = .ok (.iconst 0, 1) := by decide +kernel
theorem dX8_text_12 : decode cX8_text 12 = .ok (.putfield 113, 3) := by decide +kernel
theorem dX8_text_15 : decode cX8_text 15 = .ok (.aload_n 0, 1) := by decide +kernel
theorem dX8_text_16 : decode cX8_text 16 = .ok (.iconst 0, 1) := by decide +kernel
theorem dX8_text_17 : decode cX8_text 17 = .ok (.putfield 97, 3) := by decide +kernel
theorem dX8_text_20 : decode cX8_text 20 = .ok (.aload_n 0, 1) := by decide +kernel
theorem dX8_text_21 : decode cX8_text 21 = .ok (.iconst 0, 1) := by decide +kernel
theorem dX8_text_22 : decode cX8_text 22 = .ok (.putfield 116, 3) := by decide +kernel
theorem dX8_text_25 : decode cX8_text 25 = .ok (.aload_n 0, 1) := by decide +kernel
theorem dX8_text_26 : decode cX8_text 26 = .ok (.iconst (-1), 1) := by decide +kernel
theorem dX8_text_27 : decode cX8_text 27 = .ok (.putfield 104, 3) := by decide +kernel
theorem dX8_text_30 : decode cX8_text 30 = .ok (.iconst 0, 1) := by decide +kernel
theorem dX8_text_31 : decode cX8_text 31 = .ok (.istore_n 1, 1) := by decide +kernel
theorem dX8_text_32 : decode cX8_text 32 = .ok (.iconst 0, 1) := by decide +kernel
theorem dX8_text_33 : decode cX8_text 33 = .ok (.istore_n 2, 1) := by decide +kernel
theorem dX8_text_34 : decode cX8_text 34 = .ok (.iload_n 2, 1) := by decide +kernel
theorem dX8_text_35 : decode cX8_text 35 = .ok (.bipush 29, 2) := by decide +kernel
theorem dX8_text_37 : decode cX8_text 37 = .ok (.if_icmp .ge 16, 3) := by decide +kernel
theorem dX8_text_40 : decode cX8_text 40 = .ok (.aload_n 0, 1) := by decide +kernel
theorem dX8_text_41 : decode cX8_text 41 = .ok (.getfield 13, 3) := by decide +kernel
theorem dX8_text_44 : decode cX8_text 44 = .ok (.iload_n 2, 1) := by decide +kernel
theorem dX8_text_45 : decode cX8_text 45 = .ok (.iconst 0, 1) := by decide +kernel
theorem dX8_text_46 : decode cX8_text 46 = .ok (.iastore, 1) := by decide +kernel
theorem dX8_text_47 : decode cX8_text 47 = .ok (.iinc 2 1, 3) := by decide +kernel
theorem dX8_text_50 : decode cX8_text 50 = .ok (.goto (-16), 3) := by decide +kernel
theorem dX8_text_53 : decode cX8_text 53 = .ok (.aload_n 0, 1) := by decide +kernel
theorem dX8_text_54 : decode cX8_text 54 = .ok (.invokevirtual 94, 3) := by decide +kernel
theorem dX8_text_57 : decode cX8_text 57 = .ok (.aload_n 0, 1) := by decide +kernel
theorem dX8_text_58 : decode cX8_text 58 = .ok (.getfield 60, 3) := by decide +kernel
theorem dX8_text_61 : decode cX8_text 61 = .ok (.ifCond .ne 20, 3) := by decide +kernel
theorem dX8_text_64 : decode cX8_text 64 = .ok (.aload_n 0, 1) := by decide +kernel
theorem dX8_text_65 : decode cX8_text 65 = .ok (.getfield 69, 3) := by decide +kernel
theorem dX8_text_68 : decode cX8_text 68 = .ok (.ifCond .eq 13, 3) := by decide +kernel
theorem dX8_text_71 : decode cX8_text 71 = .ok (.aload_n 0, 1) := by decide +kernel
theorem dX8_text_72 : decode cX8_text 72 = .ok (.invokevirtual 123, 3) := by decide +kernel
theorem dX8_text_75 : decode cX8_text 75 = .ok (.iinc 1 1, 3) := by decide +kernel
theorem dX8_text_78 : decode cX8_text 78 = .ok (.goto (-21), 3) := by decide +kernel
theorem dX8_text_81 : decode cX8_text 81 = .ok (.aload_n 0, 1) := by decide +kernel
theorem dX8_text_82 : decode cX8_text 82 = .ok (.getfield 60, 3) := by decide +kernel
theorem dX8_text_85 : decode cX8_text 85 = .ok (.ifCond .ne 20, 3) := by decide +kernel
theorem dX8_text_88 : decode cX8_text 88 = .ok (.aload_n 0, 1) := by decide +kernel
theorem dX8_text_89 : decode cX8_text 89 = .ok (.getfield 104, 3) := by decide +kernel
theorem dX8_text_92 : decode cX8_text 92 = .ok (.aload_n 0, 1) := by decide +kernel
theorem dX8_text_93 : decode cX8_text 93 = .ok (.getfield 113, 3) := by decide +kernel
theorem dX8_text_96 : decode cX8_text 96 = .ok (.if_icmp .lt 9, 3) := by decide +kernel
theorem dX8_text_99 : decode cX8_text 99 = .ok (.aload_n 0, 1) := by decide +kernel
theorem dX8_text_100 : decode cX8_text 100 = .ok (.bipush 6, 2) := by decide +kernel
theorem dX8_text_102 : decode cX8_text 102 = .ok (.invokevirtual 90, 3) := by decide +kernel
theorem dX8_text_105 : decode cX8_text 105 = .ok (.aload_n 0, 1) := by decide +kernel
theorem dX8_text_106 : decode cX8_text 106 = .ok (.iconst 0, 1) := by decide +kernel
theorem dX8_text_107 : decode cX8_text 107 = .ok (.putfield 56, 3) := by decide +kernel
theorem dX8_text_110 : decode cX8_text 110 = .ok (.aload_n 0, 1) := by decide +kernel
theorem dX8_text_111 : decode cX8_text 111 = .ok (.aload_n 0, 1) := by decide +kernel
theorem dX8_text_112 : decode cX8_text 112 = .ok (.getfield 60, 3) := by decide +kernel
theorem dX8_text_115 : decode cX8_text 115 = .ok (.putfield 126, 3) := by decide +kernel
theorem dX8_text_118 : decode cX8_text 118 = .ok (.aload_n 0, 1) := by decide +kernel
theorem dX8_text_119 : decode cX8_text 119 = .ok (.getfield 60, 3) := by decide +kernel
theorem dX8_text_122 : decode cX8_text 122 = .ok (.ifCond .le 11, 3) := by decide +kernel
theorem dX8_text_125 : decode cX8_text 125 = .ok (.bipush (-10), 2) := by decide +kernel
theorem dX8_text_127 : decode cX8_text 127 = .ok (.aload_n 0, 1) := by decide +kernel
theorem dX8_text_128 : decode cX8_text 128 = .ok (.getfield 66, 3) := by decide +kernel
theorem dX8_text_131 : decode cX8_text 131 = .ok (.isub, 1) := by decide +kernel
theorem dX8_text_132 : decode cX8_text 132 = .ok (.ireturn, 1) := by decide +kernel
theorem dX8_text_133 : decode cX8_text 133 = .ok (.iconst 0, 1) := by decide +kernel
theorem dX8_text_134 : decode cX8_text 134 = .ok (.istore_n 2, 1) := by decide +kernel
theorem dX8_text_135 : decode cX8_text 135 = .ok (.iload_n 2, 1) := by decide +kernel
theorem dX8_text_136 : decode cX8_text 136 = .ok (.bipush 29, 2) := by decide +kernel
theorem dX8_text_138 : decode cX8_text 138 = .ok (.if_icmp .ge 21, 3) := by decide +kernel
theorem dX8_text_141 : decode cX8_text 141 = .ok (.aload_n 0, 1) := by decide +kernel
theorem dX8_text_142 : decode cX8_text 142 = .ok (.getfield 7, 3) := by decide +kernel
theorem dX8_text_145 : decode cX8_text 145 = .ok (.iload_n 2, 1) := by decide +kernel
theorem dX8_text_146 : decode cX8_text 146 = .ok (.aload_n 0, 1) := by decide +kernel
theorem dX8_text_147 : decode cX8_text 147 = .ok (.getfield 13, 3) := by decide +kernel
theorem dX8_text_150 : decode cX8_text 150 = .ok (.iload_n 2, 1) := by decide +kernel
theorem dX8_text_151 : decode cX8_text 151 = .ok (.iaload, 1) := by decide +kernel
theorem dX8_text_152 : decode cX8_text 152 = .ok (.iastore, 1) := by decide +kernel
theorem dX8_text_153 : decode cX8_text 153 = .ok (.iinc 2 1, 3) := by decide +kernel
theorem dX8_text_156 : decode cX8_text 156 = .ok (.goto (-21), 3) := by decide +kernel
theorem dX8_text_159 : decode cX8_text 159 = .ok (.aload_n 0, 1) := by decide +kernel
theorem dX8_text_160 : decode cX8_text 160 = .ok (.aload_n 0, 1) := by decide +kernel
theorem dX8_text_161 : decode cX8_text 161 = .ok (.getfield 113, 3) := by decide +kernel
theorem dX8_text_164 : decode cX8_text 164 = .ok (.putfield 129, 3) := by decide +kernel
theorem dX8_text_167 : decode cX8_text 167 = .ok (.aload_n 0, 1) := by decide +kernel
theorem dX8_text_168 : decode cX8_text 168 = .ok (.aload_n 0, 1) := by decide +kernel
theorem dX8_text_169 : decode cX8_text 169 = .ok (.getfield 97, 3) := by decide +kernel
theorem dX8_text_172 : decode cX8_text 172 = .ok (.putfield 132, 3) := by decide +kernel
theorem dX8_text_175 : decode cX8_text 175 = .ok (.aload_n 0, 1) := by decide +kernel
theorem dX8_text_176 : decode cX8_text 176 = .ok (.iconst 0, 1) := by decide +kernel
theorem dX8_text_177 : decode cX8_text 177 = .ok (.putfield 135, 3) := by decide +kernel
theorem dX8_text_180 : decode cX8_text 180 = .ok (.aload_n 0, 1) := by decide +kernel
theorem dX8_text_181 : decode cX8_text 181 = .ok (.getfield 37, 3) := by decide +kernel
theorem dX8_text_184 : decode cX8_text 184 = .ok (.iconst 0, 1) := by decide +kernel
theorem dX8_text_185 : decode cX8_text 185 = .ok (.iconst 0, 1) := by decide +kernel
theorem dX8_text_186 : decode cX8_text 186 = .ok (.bastore, 1) := by decide +kernel
theorem dX8_text_187 : decode cX8_text 187 = .ok (.aload_n 0, 1) := by decide +kernel
theorem dX8_text_188 : decode cX8_text 188 = .ok (.getfield 37, 3) := by decide +kernel
theorem dX8_text_191 : decode cX8_text 191 = .ok (.iconst 1, 1) := by decide +kernel
theorem dX8_text_192 : decode cX8_text 192 = .ok (.iconst 0, 1) := by decide +kernel
theorem dX8_text_193 : decode cX8_text 193 = .ok (.bastore, 1) := by decide +kernel
theorem dX8_text_194 : decode cX8_text 194 = .ok (.iload_n 1, 1) := by decide +kernel
theorem dX8_text_195 : decode cX8_text 195 = .ok (.ireturn, 1) := by decide +kernel
theorem dX8_fault_0 : decode cX8_fault 0 = .ok (.aload_n 0, 1) := by decide +kernel
theorem dX8_fault_1 : decode cX8_fault 1 = .ok (.getfield 126, 3) := by decide +kernel
theorem dX8_fault_4 : decode cX8_fault 4 = .ok (.ireturn, 1) := by decide +kernel
set_option maxRecDepth 20000 in
theorem ggX8_isLord_X8_in : GoodIn wsX8_isLord wsX8_in := goodIn_r _ [5] (by decide +kernel) (by decide +kernel)
set_option maxRecDepth 20000 in
theorem gX8_isLord_X8_in : GoodIn wsX8_isLord (va_wsS RX8 52 yX8_in wsX8_in) := goodIn_app (goodIn_of _ (by decide +kernel)) ggX8_isLord_X8_in
theorem dX8_isLord_0 : decode cX8_isLord 0 = .ok (.iload_n 1, 1) := by decide +kernel
theorem dX8_isLord_1 : decode cX8_isLord 1 = .ok (.i2l, 1) := by decide +kernel
theorem dX8_isLord_2 : decode cX8_isLord 2 = .ok (.lconst 0, 1) := by decide +kernel
theorem dX8_isLord_3 : decode cX8_isLord 3 = .ok (.aload_n 0, 1) := by decide +kernel
theorem dX8_isLord_4 : decode cX8_isLord 4 = .ok (.getfield 129, 3) := by decide +kernel
theorem dX8_isLord_7 : decode cX8_isLord 7 = .ok (.iconst 1, 1) := by decide +kernel
theorem dX8_isLord_8 : decode cX8_isLord 8 = .ok (.isub, 1) := by decide +kernel
theorem dX8_isLord_9 : decode cX8_isLord 9 = .ok (.i2l, 1) := by decide +kernel
theorem dX8_isLord_10 : decode cX8_isLord 10 = .ok (.invokestatic 52, 3) := by decide +kernel
theorem dX8_isLord_13 : decode cX8_isLord 13 = .ok (.ireturn, 1) := by decide +kernel
set_option maxRecDepth 20000 in
theorem ggX8_isBorough_X8_in : GoodIn wsX8_isBorough wsX8_in := goodIn_r _ [5] (by decide +kernel) (by decide +kernel)
set_option maxRecDepth 20000 in
theorem gX8_isBorough_X8_in : GoodIn wsX8_isBorough (va_wsS RX8 52 yX8_in wsX8_in) := goodIn_app (goodIn_of _ (by decide +kernel)) ggX8_isBorough_X8_in
theorem dX8_isBorough_0 : decode cX8_isBorough 0 = .ok (.iload_n 1, 1) := by decide +kernel
theorem dX8_isBorough_1 : decode cX8_isBorough 1 = .ok (.i2l, 1) := by decide +kernel
theorem dX8_isBorough_2 : decode cX8_isBorough 2 = .ok (.lconst 0, 1) := by decide +kernel
theorem dX8_isBorough_3 : decode cX8_isBorough 3 = .ok (.aload_n 0, 1) := by decide +kernel
theorem dX8_isBorough_4 : decode cX8_isBorough 4 = .ok (.getfield 132, 3) := by decide +kernel
theorem dX8_isBorough_7 : decode cX8_isBorough 7 = .ok (.iconst 1, 1) := by decide +kernel
theorem dX8_isBorough_8 : decode cX8_isBorough 8 = .ok (.isub, 1) := by decide +kernel
theorem dX8_isBorough_9 : decode cX8_isBorough 9 = .ok (.i2l, 1) := by decide +kernel
theorem dX8_isBorough_10 : decode cX8_isBorough 10 = .ok (.invokestatic 52, 3) := by decide +kernel
theorem dX8_isBorough_13 : decode cX8_isBorough 13 = .ok (.ireturn, 1) := by decide +kernel
theorem dX8_ownerOf_0 : decode cX8_ownerOf 0 = .ok (.aload_n 0, 1) := by decide +kernel
theorem dX8_ownerOf_1 : decode cX8_ownerOf 1 = .ok (.getfield 7, 3) := by decide +kernel
theorem dX8_ownerOf_4 : decode cX8_ownerOf 4 = .ok (.bipush 22, 2) := by decide +kernel
theorem dX8_ownerOf_6 : decode cX8_ownerOf 6 = .ok (.iload_n 1, 1) := by decide +kernel
theorem dX8_ownerOf_7 : decode cX8_ownerOf 7 = .ok (.iadd, 1) := by decide +kernel
theorem dX8_ownerOf_8 : decode cX8_ownerOf 8 = .ok (.iaload, 1) := by decide +kernel
theorem dX8_ownerOf_9 : decode cX8_ownerOf 9 = .ok (.iconst 1, 1) := by decide +kernel
theorem dX8_ownerOf_10 : decode cX8_ownerOf 10 = .ok (.isub, 1) := by decide +kernel
theorem dX8_ownerOf_11 : decode cX8_ownerOf 11 = .ok (.ireturn, 1) := by decide +kernel
theorem dX8_votesOf_0 : decode cX8_votesOf 0 = .ok (.aload_n 0, 1) := by decide +kernel
theorem dX8_votesOf_1 : decode cX8_votesOf 1 = .ok (.getfield 7, 3) := by decide +kernel
theorem dX8_votesOf_4 : decode cX8_votesOf 4 = .ok (.bipush 10, 2) := by decide +kernel
theorem dX8_votesOf_6 : decode cX8_votesOf 6 = .ok (.iload_n 1, 1) := by decide +kernel
theorem dX8_votesOf_7 : decode cX8_votesOf 7 = .ok (.iadd, 1) := by decide +kernel
theorem dX8_votesOf_8 : decode cX8_votesOf 8 = .ok (.iaload, 1) := by decide +kernel
theorem dX8_votesOf_9 : decode cX8_votesOf 9 = .ok (.istore_n 2, 1) := by decide +kernel
theorem dX8_votesOf_10 : decode cX8_votesOf 10 = .ok (.iload_n 2, 1) := by decide +kernel
theorem dX8_votesOf_11 : decode cX8_votesOf 11 = .ok (.iconst 1, 1) := by decide +kernel
theorem dX8_votesOf_12 : decode cX8_votesOf 12 = .ok (.iadd, 1) := by decide +kernel
theorem dX8_votesOf_13 : decode cX8_votesOf 13 = .ok (.iconst 2, 1) := by decide +kernel
theorem dX8_votesOf_14 : decode cX8_votesOf 14 = .ok (.idiv, 1) := by decide +kernel
theorem dX8_votesOf_15 : decode cX8_votesOf 15 = .ok (.istore_n 3, 1) := by decide +kernel
theorem dX8_votesOf_16 : decode cX8_votesOf 16 = .ok (.aload_n 0, 1) := by decide +kernel
theorem dX8_votesOf_17 : decode cX8_votesOf 17 = .ok (.getfield 7, 3) := by decide +kernel
theorem dX8_votesOf_20 : decode cX8_votesOf 20 = .ok (.iconst 4, 1) := by decide +kernel
theorem dX8_votesOf_21 : decode cX8_votesOf 21 = .ok (.iload_n 1, 1) := by decide +kernel
theorem dX8_votesOf_22 : decode cX8_votesOf 22 = .ok (.iadd, 1) := by decide +kernel
theorem dX8_votesOf_23 : decode cX8_votesOf 23 = .ok (.iaload, 1) := by decide +kernel
theorem dX8_votesOf_24 : decode cX8_votesOf 24 = .ok (.tableswitch 36 0 2 #[28, 30, 32], 28) := by decide +kernel
theorem dX8_votesOf_52 : decode cX8_votesOf 52 = .ok (.iload_n 2, 1) := by decide +kernel
theorem dX8_votesOf_53 : decode cX8_votesOf 53 = .ok (.ireturn, 1) := by decide +kernel
theorem dX8_votesOf_54 : decode cX8_votesOf 54 = .ok (.iload_n 3, 1) := by decide +kernel
theorem dX8_votesOf_55 : decode cX8_votesOf 55 = .ok (.ireturn, 1) := by decide +kernel
theorem dX8_votesOf_56 : decode cX8_votesOf 56 = .ok (.iload_n 3, 1) := by decide +kernel
theorem dX8_votesOf_57 : decode cX8_votesOf 57 = .ok (.iconst 1, 1) := by decide +kernel
theorem dX8_votesOf_58 : decode cX8_votesOf 58 = .ok (.iadd, 1) := by decide +kernel
theorem dX8_votesOf_59 : decode cX8_votesOf 59 = .ok (.ireturn, 1) := by decide +kernel
theorem dX8_votesOf_60 : decode cX8_votesOf 60 = .ok (.iload_n 2, 1) := by decide +kernel
theorem dX8_votesOf_61 : decode cX8_votesOf 61 = .ok (.iload_n 3, 1) := by decide +kernel
theorem dX8_votesOf_62 : decode cX8_votesOf 62 = .ok (.iadd, 1) := by decide +kernel
theorem dX8_votesOf_63 : decode cX8_votesOf 63 = .ok (.ireturn, 1) := by decide +kernel
set_option maxRecDepth 20000 in
theorem ggX8_costOf_X8_votesOf : GoodIn wsX8_costOf wsX8_votesOf := goodIn_r _ [6, 1, 7, 8, 9, 10, 11, 12, 13, 14, 15, 16, 17, 18, 19, 20, 21, 22, 23, 24, 25, 26, 27, 28, 29, 30, 31, 32, 33, 34, 35, 36, 37, 38] (by decide +kernel) (by decide +kernel)
set_option maxRecDepth 20000 in
theorem gX8_costOf_X8_votesOf : GoodIn wsX8_costOf (wsV RX8 138 RX8 yX8_votesOf wsX8_votesOf) := goodIn_app (goodIn_of _ (by decide +kernel)) ggX8_costOf_X8_votesOf
theorem dX8_costOf_0 : decode cX8_costOf 0 = .ok (.aload_n 0, 1) := by decide +kernel
theorem dX8_costOf_1 : decode cX8_costOf 1 = .ok (.getfield 7, 3) := by decide +kernel
theorem dX8_costOf_4 : decode cX8_costOf 4 = .ok (.bipush 28, 2) := by decide +kernel
theorem dX8_costOf_6 : decode cX8_costOf 6 = .ok (.iaload, 1) := by decide +kernel
theorem dX8_costOf_7 : decode cX8_costOf 7 = .ok (.iconst 3, 1) := by decide +kernel
theorem dX8_costOf_8 : decode cX8_costOf 8 = .ok (.iadd, 1) := by decide +kernel
theorem dX8_costOf_9 : decode cX8_costOf 9 = .ok (.aload_n 0, 1) := by decide +kernel
theorem dX8_costOf_10 : decode cX8_costOf 10 = .ok (.iload_n 1, 1) := by decide +kernel
theorem dX8_costOf_11 : decode cX8_costOf 11 = .ok (.invokevirtual 138, 3) := by decide +kernel
theorem dX8_costOf_14 : decode cX8_costOf 14 = .ok (.imul, 1) := by decide +kernel
theorem dX8_costOf_15 : decode cX8_costOf 15 = .ok (.ireturn, 1) := by decide +kernel
theorem dX8_seatsOf_0 : decode cX8_seatsOf 0 = .ok (.iconst 0, 1) := by decide +kernel
theorem dX8_seatsOf_1 : decode cX8_seatsOf 1 = .ok (.istore_n 2, 1) := by decide +kernel
theorem dX8_seatsOf_2 : decode cX8_seatsOf 2 = .ok (.iconst 0, 1) := by decide +kernel
theorem dX8_seatsOf_3 : decode cX8_seatsOf 3 = .ok (.istore_n 3, 1) := by decide +kernel
theorem dX8_seatsOf_4 : decode cX8_seatsOf 4 = .ok (.iload_n 3, 1) := by decide +kernel
theorem dX8_seatsOf_5 : decode cX8_seatsOf 5 = .ok (.aload_n 0, 1) := by decide +kernel
theorem dX8_seatsOf_6 : decode cX8_seatsOf 6 = .ok (.getfield 132, 3) := by decide +kernel
theorem dX8_seatsOf_9 : decode cX8_seatsOf 9 = .ok (.if_icmp .ge 34, 3) := by decide +kernel
theorem dX8_seatsOf_12 : decode cX8_seatsOf 12 = .ok (.iload_n 2, 1) := by decide +kernel
theorem dX8_seatsOf_13 : decode cX8_seatsOf 13 = .ok (.iload_n 1, 1) := by decide +kernel
theorem dX8_seatsOf_14 : decode cX8_seatsOf 14 = .ok (.iload_n 3, 1) := by decide +kernel
theorem dX8_seatsOf_15 : decode cX8_seatsOf 15 = .ok (.ishr, 1) := by decide +kernel
theorem dX8_seatsOf_16 : decode cX8_seatsOf 16 = .ok (.iconst 1, 1) := by decide +kernel
theorem dX8_seatsOf_17 : decode cX8_seatsOf 17 = .ok (.iand, 1) := by decide +kernel
theorem dX8_seatsOf_18 : decode cX8_seatsOf 18 = .ok (.iconst 1, 1) := by decide +kernel
theorem dX8_seatsOf_19 : decode cX8_seatsOf 19 = .ok (.if_icmp .ne 15, 3) := by decide +kernel
theorem dX8_seatsOf_22 : decode cX8_seatsOf 22 = .ok (.aload_n 0, 1) := by decide +kernel
theorem dX8_seatsOf_23 : decode cX8_seatsOf 23 = .ok (.getfield 7, 3) := by decide +kernel
theorem dX8_seatsOf_26 : decode cX8_seatsOf 26 = .ok (.bipush 16, 2) := by decide +kernel
theorem dX8_seatsOf_28 : decode cX8_seatsOf 28 = .ok (.iload_n 3, 1) := by decide +kernel
theorem dX8_seatsOf_29 : decode cX8_seatsOf 29 = .ok (.iadd, 1) := by decide +kernel
theorem dX8_seatsOf_30 : decode cX8_seatsOf 30 = .ok (.iaload, 1) := by decide +kernel
theorem dX8_seatsOf_31 : decode cX8_seatsOf 31 = .ok (.goto 4, 3) := by decide +kernel
theorem dX8_seatsOf_34 : decode cX8_seatsOf 34 = .ok (.iconst 0, 1) := by decide +kernel
theorem dX8_seatsOf_35 : decode cX8_seatsOf 35 = .ok (.iadd, 1) := by decide +kernel
theorem dX8_seatsOf_36 : decode cX8_seatsOf 36 = .ok (.istore_n 2, 1) := by decide +kernel
theorem dX8_seatsOf_37 : decode cX8_seatsOf 37 = .ok (.iinc 3 1, 3) := by decide +kernel
theorem dX8_seatsOf_40 : decode cX8_seatsOf 40 = .ok (.goto (-36), 3) := by decide +kernel
theorem dX8_seatsOf_43 : decode cX8_seatsOf 43 = .ok (.iload_n 2, 1) := by decide +kernel
theorem dX8_seatsOf_44 : decode cX8_seatsOf 44 = .ok (.ireturn, 1) := by decide +kernel
theorem dX8_all_0 : decode cX8_all 0 = .ok (.iconst 1, 1) := by decide +kernel
theorem dX8_all_1 : decode cX8_all 1 = .ok (.aload_n 0, 1) := by decide +kernel
theorem dX8_all_2 : decode cX8_all 2 = .ok (.getfield 132, 3) := by decide +kernel
theorem dX8_all_5 : decode cX8_all 5 = .ok (.ishl, 1) := by decide +kernel
theorem dX8_all_6 : decode cX8_all 6 = .ok (.iconst 1, 1) := by decide +kernel
theorem dX8_all_7 : decode cX8_all 7 = .ok (.isub, 1) := by decide +kernel
theorem dX8_all_8 : decode cX8_all 8 = .ok (.ireturn, 1) := by decide +kernel
set_option maxRecDepth 20000 in
theorem ggX8_boroughsOf_X8_ownerOf : GoodIn wsX8_boroughsOf wsX8_ownerOf := goodIn_r _ [6, 7, 8, 9, 10, 11, 12, 13, 14, 15, 16, 17, 18, 19, 20, 21, 22, 23, 24, 25, 26, 27, 28, 29, 30, 31, 32, 33, 34, 35, 36, 37, 38, 39] (by decide +kernel) (by decide +kernel)
set_option maxRecDepth 20000 in
theorem gX8_boroughsOf_X8_ownerOf : GoodIn wsX8_boroughsOf (wsV RX8 141 RX8 yX8_ownerOf wsX8_ownerOf) := goodIn_app (goodIn_of _ (by decide +kernel)) ggX8_boroughsOf_X8_ownerOf
theorem dX8_boroughsOf_0 : decode cX8_boroughsOf 0 = .ok (.iconst 0, 1) := by decide +kernel
theorem dX8_boroughsOf_1 : decode cX8_boroughsOf 1 = .ok (.istore_n 2, 1) := by decide +kernel
theorem dX8_boroughsOf_2 : decode cX8_boroughsOf 2 = .ok (.iconst 0, 1) := by decide +kernel
theorem dX8_boroughsOf_3 : decode cX8_boroughsOf 3 = .ok (.istore_n 3, 1) := by decide +kernel
theorem dX8_boroughsOf_4 : decode cX8_boroughsOf 4 = .ok (.iload_n 3, 1) := by decide +kernel
theorem dX8_boroughsOf_5 : decode cX8_boroughsOf 5 = .ok (.aload_n 0, 1) := by decide +kernel
theorem dX8_boroughsOf_6 : decode cX8_boroughsOf 6 = .ok (.getfield 132, 3) := by decide +kernel
theorem dX8_boroughsOf_9 : decode cX8_boroughsOf 9 = .ok (.if_icmp .ge 40, 3) := by decide +kernel
theorem dX8_boroughsOf_12 : decode cX8_boroughsOf 12 = .ok (.iload_n 2, 1) := by decide +kernel
theorem dX8_boroughsOf_13 : decode cX8_boroughsOf 13 = .ok (.aload_n 0, 1) := by decide +kernel
theorem dX8_boroughsOf_14 : decode cX8_boroughsOf 14 = .ok (.iload_n 3, 1) := by decide +kernel
theorem dX8_boroughsOf_15 : decode cX8_boroughsOf 15 = .ok (.invokevirtual 141, 3) := by decide +kernel
theorem dX8_boroughsOf_18 : decode cX8_boroughsOf 18 = .ok (.ifCond .lt 22, 3) := by decide +kernel
theorem dX8_boroughsOf_21 : decode cX8_boroughsOf 21 = .ok (.iload_n 1, 1) := by decide +kernel
theorem dX8_boroughsOf_22 : decode cX8_boroughsOf 22 = .ok (.aload_n 0, 1) := by decide +kernel
theorem dX8_boroughsOf_23 : decode cX8_boroughsOf 23 = .ok (.iload_n 3, 1) := by decide +kernel
theorem dX8_boroughsOf_24 : decode cX8_boroughsOf 24 = .ok (.invokevirtual 141, 3) := by decide +kernel
theorem dX8_boroughsOf_27 : decode cX8_boroughsOf 27 = .ok (.ishr, 1) := by decide +kernel
theorem dX8_boroughsOf_28 : decode cX8_boroughsOf 28 = .ok (.iconst 1, 1) := by decide +kernel
theorem dX8_boroughsOf_29 : decode cX8_boroughsOf 29 = .ok (.iand, 1) := by decide +kernel
theorem dX8_boroughsOf_30 : decode cX8_boroughsOf 30 = .ok (.iconst 1, 1) := by decide +kernel
theorem dX8_boroughsOf_31 : decode cX8_boroughsOf 31 = .ok (.if_icmp .ne 9, 3) := by decide +kernel
theorem dX8_boroughsOf_34 : decode cX8_boroughsOf 34 = .ok (.iconst 1, 1) := by decide +kernel
theorem dX8_boroughsOf_35 : decode cX8_boroughsOf 35 = .ok (.iload_n 3, 1) := by decide +kernel
theorem dX8_boroughsOf_36 : decode cX8_boroughsOf 36 = .ok (.ishl, 1) := by decide +kernel
theorem dX8_boroughsOf_37 : decode cX8_boroughsOf 37 = .ok (.goto 4, 3) := by decide +kernel
theorem dX8_boroughsOf_40 : decode cX8_boroughsOf 40 = .ok (.iconst 0, 1) := by decide +kernel
theorem dX8_boroughsOf_41 : decode cX8_boroughsOf 41 = .ok (.ior, 1) := by decide +kernel
theorem dX8_boroughsOf_42 : decode cX8_boroughsOf 42 = .ok (.istore_n 2, 1) := by decide +kernel
theorem dX8_boroughsOf_43 : decode cX8_boroughsOf 43 = .ok (.iinc 3 1, 3) := by decide +kernel
theorem dX8_boroughsOf_46 : decode cX8_boroughsOf 46 = .ok (.goto (-42), 3) := by decide +kernel
theorem dX8_boroughsOf_49 : decode cX8_boroughsOf 49 = .ok (.iload_n 2, 1) := by decide +kernel
theorem dX8_boroughsOf_50 : decode cX8_boroughsOf 50 = .ok (.ireturn, 1) := by decide +kernel
set_option maxRecDepth 20000 in
theorem ggX8_nobodys_X8_all : GoodIn wsX8_nobodys wsX8_all := goodIn_r _ [5, 6, 16, 17, 18, 19, 20, 21, 22, 23, 24, 25, 26, 27, 28, 29, 30, 31, 32, 33, 34, 35, 36, 37, 38, 39, 40, 41, 42, 43, 44, 45, 46, 47] (by decide +kernel) (by decide +kernel)
set_option maxRecDepth 20000 in
theorem gX8_nobodys_X8_all : GoodIn wsX8_nobodys (wsV RX8 144 RX8 yX8_all wsX8_all) := goodIn_app (goodIn_of _ (by decide +kernel)) ggX8_nobodys_X8_all
set_option maxRecDepth 20000 in
theorem ggX8_nobodys_X8_boroughsOf : GoodIn wsX8_nobodys wsX8_boroughsOf := goodIn_r _ [10, 6, 11, 12, 13, 4, 14, 15, 16, 17, 18, 19, 20, 21, 22, 23, 24, 25, 26, 27, 28, 29, 30, 31, 32, 33, 34, 35, 36, 37, 38, 39, 40, 41, 42, 43, 44, 45, 46, 47] (by decide +kernel) (by decide +kernel)
set_option maxRecDepth 20000 in
theorem gX8_nobodys_X8_boroughsOf : GoodIn wsX8_nobodys (wsV RX8 147 RX8 yX8_boroughsOf wsX8_boroughsOf) := goodIn_app (goodIn_of _ (by decide +kernel)) ggX8_nobodys_X8_boroughsOf
theorem dX8_nobodys_0 : decode cX8_nobodys 0 = .ok (.aload_n 0, 1) := by decide +kernel
theorem dX8_nobodys_1 : decode cX8_nobodys 1 = .ok (.invokevirtual 144, 3) := by decide +kernel
theorem dX8_nobodys_4 : decode cX8_nobodys 4 = .ok (.aload_n 0, 1) := by decide +kernel
theorem dX8_nobodys_5 : decode cX8_nobodys 5 = .ok (.bipush 15, 2) := by decide +kernel
theorem dX8_nobodys_7 : decode cX8_nobodys 7 = .ok (.invokevirtual 147, 3) := by decide +kernel
theorem dX8_nobodys_10 : decode cX8_nobodys 10 = .ok (.iconst (-1), 1) := by decide +kernel
theorem dX8_nobodys_11 : decode cX8_nobodys 11 = .ok (.ixor, 1) := by decide +kernel
theorem dX8_nobodys_12 : decode cX8_nobodys 12 = .ok (.iand, 1) := by decide +kernel
theorem dX8_nobodys_13 : decode cX8_nobodys 13 = .ok (.ireturn, 1) := by decide +kernel
theorem dX8_guineas_0 : decode cX8_guineas 0 = .ok (.iconst 0, 1) := by decide +kernel
theorem dX8_guineas_1 : decode cX8_guineas 1 = .ok (.istore_n 1, 1) := by decide +kernel
theorem dX8_guineas_2 : decode cX8_guineas 2 = .ok (.iconst 0, 1) := by decide +kernel
theorem dX8_guineas_3 : decode cX8_guineas 3 = .ok (.istore_n 2, 1) := by decide +kernel
theorem dX8_guineas_4 : decode cX8_guineas 4 = .ok (.iload_n 2, 1) := by decide +kernel
theorem dX8_guineas_5 : decode cX8_guineas 5 = .ok (.aload_n 0, 1) := by decide +kernel
theorem dX8_guineas_6 : decode cX8_guineas 6 = .ok (.getfield 129, 3) := by decide +kernel
theorem dX8_guineas_9 : decode cX8_guineas 9 = .ok (.if_icmp .ge 18, 3) := by decide +kernel
theorem dX8_guineas_12 : decode cX8_guineas 12 = .ok (.iload_n 1, 1) := by decide +kernel
theorem dX8_guineas_13 : decode cX8_guineas 13 = .ok (.aload_n 0, 1) := by decide +kernel
theorem dX8_guineas_14 : decode cX8_guineas 14 = .ok (.getfield 7, 3) := by decide +kernel
theorem dX8_guineas_17 : decode cX8_guineas 17 = .ok (.iload_n 2, 1) := by decide +kernel
theorem dX8_guineas_18 : decode cX8_guineas 18 = .ok (.iaload, 1) := by decide +kernel
theorem dX8_guineas_19 : decode cX8_guineas 19 = .ok (.iadd, 1) := by decide +kernel
theorem dX8_guineas_20 : decode cX8_guineas 20 = .ok (.istore_n 1, 1) := by decide +kernel
theorem dX8_guineas_21 : decode cX8_guineas 21 = .ok (.iinc 2 1, 3) := by decide +kernel
theorem dX8_guineas_24 : decode cX8_guineas 24 = .ok (.goto (-20), 3) := by decide +kernel
theorem dX8_guineas_27 : decode cX8_guineas 27 = .ok (.iload_n 1, 1) := by decide +kernel
theorem dX8_guineas_28 : decode cX8_guineas 28 = .ok (.ireturn, 1) := by decide +kernel
theorem dX8_seatless_0 : decode cX8_seatless 0 = .ok (.iconst 0, 1) := by decide +kernel
theorem dX8_seatless_1 : decode cX8_seatless 1 = .ok (.istore_n 1, 1) := by decide +kernel
theorem dX8_seatless_2 : decode cX8_seatless 2 = .ok (.iconst 0, 1) := by decide +kernel
theorem dX8_seatless_3 : decode cX8_seatless 3 = .ok (.istore_n 2, 1) := by decide +kernel
theorem dX8_seatless_4 : decode cX8_seatless 4 = .ok (.iload_n 2, 1) := by decide +kernel
theorem dX8_seatless_5 : decode cX8_seatless 5 = .ok (.aload_n 0, 1) := by decide +kernel
theorem dX8_seatless_6 : decode cX8_seatless 6 = .ok (.getfield 132, 3) := by decide +kernel
theorem dX8_seatless_9 : decode cX8_seatless 9 = .ok (.if_icmp .ge 31, 3) := by decide +kernel
theorem dX8_seatless_12 : decode cX8_seatless 12 = .ok (.iload_n 1, 1) := by decide +kernel
theorem dX8_seatless_13 : decode cX8_seatless 13 = .ok (.aload_n 0, 1) := by decide +kernel
theorem dX8_seatless_14 : decode cX8_seatless 14 = .ok (.getfield 7, 3) := by decide +kernel
theorem dX8_seatless_17 : decode cX8_seatless 17 = .ok (.bipush 16, 2) := by decide +kernel
theorem dX8_seatless_19 : decode cX8_seatless 19 = .ok (.iload_n 2, 1) := by decide +kernel
theorem dX8_seatless_20 : decode cX8_seatless 20 = .ok (.iadd, 1) := by decide +kernel
theorem dX8_seatless_21 : decode cX8_seatless 21 = .ok (.iaload, 1) := by decide +kernel
theorem dX8_seatless_22 : decode cX8_seatless 22 = .ok (.ifCond .ne 9, 3) := by decide +kernel
theorem dX8_seatless_25 : decode cX8_seatless 25 = .ok (.iconst 1, 1) := by decide +kernel
theorem dX8_seatless_26 : decode cX8_seatless 26 = .ok (.iload_n 2, 1) := by decide +kernel
theorem dX8_seatless_27 : decode cX8_seatless 27 = .ok (.ishl, 1) := by decide +kernel
theorem dX8_seatless_28 : decode cX8_seatless 28 = .ok (.goto 4, 3) := by decide +kernel
theorem dX8_seatless_31 : decode cX8_seatless 31 = .ok (.iconst 0, 1) := by decide +kernel
theorem dX8_seatless_32 : decode cX8_seatless 32 = .ok (.ior, 1) := by decide +kernel
theorem dX8_seatless_33 : decode cX8_seatless 33 = .ok (.istore_n 1, 1) := by decide +kernel
theorem dX8_seatless_34 : decode cX8_seatless 34 = .ok (.iinc 2 1, 3) := by decide +kernel
theorem dX8_seatless_37 : decode cX8_seatless 37 = .ok (.goto (-33), 3) := by decide +kernel
theorem dX8_seatless_40 : decode cX8_seatless 40 = .ok (.iload_n 1, 1) := by decide +kernel
theorem dX8_seatless_41 : decode cX8_seatless 41 = .ok (.ireturn, 1) := by decide +kernel
set_option maxRecDepth 20000 in
theorem ggX8_rule_X8_all : GoodIn wsX8_rule wsX8_all := goodIn_r _ [8, 2, 33, 34, 35, 36, 37, 38, 39, 40, 41, 42, 43, 44, 45, 46, 47, 48, 49, 50, 51, 52, 53, 54, 55, 56, 57, 58, 59, 60, 61, 62, 63, 64] (by decide +kernel) (by decide +kernel)
set_option maxRecDepth 20000 in
theorem gX8_rule_X8_all : GoodIn wsX8_rule (wsV RX8 144 RX8 yX8_all wsX8_all) := goodIn_app (goodIn_of _ (by decide +kernel)) ggX8_rule_X8_all
set_option maxRecDepth 20000 in
theorem ggX8_rule_X8_seatsOf : GoodIn wsX8_rule wsX8_seatsOf := goodIn_r _ [12, 2, 3, 33, 34, 35, 36, 37, 38, 39, 40, 41, 42, 43, 44, 45, 46, 47, 48, 49, 50, 51, 52, 53, 54, 55, 56, 57, 58, 59, 60, 61, 62, 63, 64] (by decide +kernel) (by decide +kernel)
set_option maxRecDepth 20000 in
theorem gX8_rule_X8_seatsOf : GoodIn wsX8_rule (wsV RX8 150 RX8 yX8_seatsOf wsX8_seatsOf) := goodIn_app (goodIn_of _ (by decide +kernel)) ggX8_rule_X8_seatsOf
set_option maxRecDepth 20000 in
theorem ggX8_rule_X8_guineas : GoodIn wsX8_rule wsX8_guineas := goodIn_r _ [16, 1, 3, 33, 34, 35, 36, 37, 38, 39, 40, 41, 42, 43, 44, 45, 46, 47, 48, 49, 50, 51, 52, 53, 54, 55, 56, 57, 58, 59, 60, 61, 62, 63, 64] (by decide +kernel) (by decide +kernel)
set_option maxRecDepth 20000 in
theorem gX8_rule_X8_guineas : GoodIn wsX8_rule (wsV RX8 153 RX8 yX8_guineas wsX8_guineas) := goodIn_app (goodIn_of _ (by decide +kernel)) ggX8_rule_X8_guineas
set_option maxRecDepth 20000 in
theorem ggX8_rule_X8_nobodys : GoodIn wsX8_rule wsX8_nobodys := goodIn_r _ [20, 4, 5, 6, 7, 8, 2, 21, 22, 23, 24, 25, 26, 27, 28, 3, 33, 34, 35, 36, 37, 38, 39, 40, 41, 42, 43, 44, 45, 46, 47, 48, 49, 50, 51, 52, 53, 54, 55, 56, 57, 58, 59, 60, 61, 62, 63, 64] (by decide +kernel) (by decide +kernel)
set_option maxRecDepth 20000 in
theorem gX8_rule_X8_nobodys : GoodIn wsX8_rule (wsV RX8 156 RX8 yX8_nobodys wsX8_nobodys) := goodIn_app (goodIn_of _ (by decide +kernel)) ggX8_rule_X8_nobodys
set_option maxRecDepth 20000 in
theorem ggX8_rule_X8_seatless : GoodIn wsX8_rule wsX8_seatless := goodIn_r _ [32, 2, 3, 33, 34, 35, 36, 37, 38, 39, 40, 41, 42, 43, 44, 45, 46, 47, 48, 49, 50, 51, 52, 53, 54, 55, 56, 57, 58, 59, 60, 61, 62, 63, 64] (by decide +kernel) (by decide +kernel)
set_option maxRecDepth 20000 in
theorem gX8_rule_X8_seatless : GoodIn wsX8_rule (wsV RX8 159 RX8 yX8_seatless wsX8_seatless) := goodIn_app (goodIn_of _ (by decide +kernel)) ggX8_rule_X8_seatless
theorem dX8_rule_0 : decode cX8_rule 0 = .ok (.iload_n 1, 1) := by decide +kernel
theorem dX8_rule_1 : decode cX8_rule 1 = .ok (.tableswitch 87 0 6 #[43, 48, 53, 63, 72, 77, 82], 43) := by decide +kernel
theorem dX8_rule_44 : decode cX8_rule 44 = .ok (.aload_n 0, 1) := by decide +kernel
theorem dX8_rule_45 : decode cX8_rule 45 = .ok (.getfield 129, 3) := by decide +kernel
theorem dX8_rule_48 : decode cX8_rule 48 = .ok (.ireturn, 1) := by decide +kernel
theorem dX8_rule_49 : decode cX8_rule 49 = .ok (.aload_n 0, 1) := by decide +kernel
theorem dX8_rule_50 : decode cX8_rule 50 = .ok (.getfield 132, 3) := by decide +kernel
theorem dX8_rule_53 : decode cX8_rule 53 = .ok (.ireturn, 1) := by decide +kernel
theorem dX8_rule_54 : decode cX8_rule 54 = .ok (.aload_n 0, 1) := by decide +kernel
theorem dX8_rule_55 : decode cX8_rule 55 = .ok (.getfield 7, 3) := by decide +kernel
theorem dX8_rule_58 : decode cX8_rule 58 = .ok (.bipush 28, 2) := by decide +kernel
theorem dX8_rule_60 : decode cX8_rule 60 = .ok (.iaload, 1) := by decide +kernel
theorem dX8_rule_61 : decode cX8_rule 61 = .ok (.iconst 3, 1) := by decide +kernel
theorem dX8_rule_62 : decode cX8_rule 62 = .ok (.iadd, 1) := by decide +kernel
theorem dX8_rule_63 : decode cX8_rule 63 = .ok (.ireturn, 1) := by decide +kernel
theorem dX8_rule_64 : decode cX8_rule 64 = .ok (.aload_n 0, 1) := by decide +kernel
theorem dX8_rule_65 : decode cX8_rule 65 = .ok (.aload_n 0, 1) := by decide +kernel
theorem dX8_rule_66 : decode cX8_rule 66 = .ok (.invokevirtual 144, 3) := by decide +kernel
theorem dX8_rule_69 : decode cX8_rule 69 = .ok (.invokevirtual 150, 3) := by decide +kernel
theorem dX8_rule_72 : decode cX8_rule 72 = .ok (.ireturn, 1) := by decide +kernel
theorem dX8_rule_73 : decode cX8_rule 73 = .ok (.aload_n 0, 1) := by decide +kernel
theorem dX8_rule_74 : decode cX8_rule 74 = .ok (.invokevirtual 153, 3) := by decide +kernel
theorem dX8_rule_77 : decode cX8_rule 77 = .ok (.ireturn, 1) := by decide +kernel
theorem dX8_rule_78 : decode cX8_rule 78 = .ok (.aload_n 0, 1) := by decide +kernel
theorem dX8_rule_79 : decode cX8_rule 79 = .ok (.invokevirtual 156, 3) := by decide +kernel
theorem dX8_rule_82 : decode cX8_rule 82 = .ok (.ireturn, 1) := by decide +kernel
theorem dX8_rule_83 : decode cX8_rule 83 = .ok (.aload_n 0, 1) := by decide +kernel
theorem dX8_rule_84 : decode cX8_rule 84 = .ok (.invokevirtual 159, 3) := by decide +kernel
theorem dX8_rule_87 : decode cX8_rule 87 = .ok (.ireturn, 1) := by decide +kernel
theorem dX8_rule_88 : decode cX8_rule 88 = .ok (.iconst (-1), 1) := by decide +kernel
theorem dX8_rule_89 : decode cX8_rule 89 = .ok (.ireturn, 1) := by decide +kernel
set_option maxRecDepth 20000 in
theorem ggX8_lord_X8_isLord : GoodIn wsX8_lord wsX8_isLord := goodIn_r _ [7, 8, 9, 10, 6, 11, 25, 26, 27, 28, 29, 30, 31, 32, 33, 34, 35, 36, 37, 38, 39, 40, 41, 42, 43, 44, 45, 46, 47, 48, 49, 50, 51, 52, 53, 54, 55, 56] (by decide +kernel) (by decide +kernel)
set_option maxRecDepth 20000 in
theorem gX8_lord_X8_isLord : GoodIn wsX8_lord (wsV RX8 162 RX8 yX8_isLord wsX8_isLord) := goodIn_app (goodIn_of _ (by decide +kernel)) ggX8_lord_X8_isLord
set_option maxRecDepth 20000 in
theorem ggX8_lord_X8_in : GoodIn wsX8_lord wsX8_in := goodIn_r _ [11] (by decide +kernel) (by decide +kernel)
set_option maxRecDepth 20000 in
theorem gX8_lord_X8_in : GoodIn wsX8_lord (va_wsS RX8 52 yX8_in wsX8_in) := goodIn_app (goodIn_of _ (by decide +kernel)) ggX8_lord_X8_in
set_option maxRecDepth 20000 in
theorem ggX8_lord_X8_boroughsOf : GoodIn wsX8_lord wsX8_boroughsOf := goodIn_r _ [15, 16, 17, 18, 19, 6, 20, 2, 25, 26, 27, 28, 29, 30, 31, 32, 33, 34, 35, 36, 37, 38, 39, 40, 41, 42, 43, 44, 45, 46, 47, 48, 49, 50, 51, 52, 53, 54, 55, 56] (by decide +kernel) (by decide +kernel)
set_option maxRecDepth 20000 in
theorem gX8_lord_X8_boroughsOf : GoodIn wsX8_lord (wsV RX8 147 RX8 yX8_boroughsOf wsX8_boroughsOf) := goodIn_app (goodIn_of _ (by decide +kernel)) ggX8_lord_X8_boroughsOf
set_option maxRecDepth 20000 in
theorem ggX8_lord_X8_seatsOf : GoodIn wsX8_lord wsX8_seatsOf := goodIn_r _ [24, 16, 2, 25, 26, 27, 28, 29, 30, 31, 32, 33, 34, 35, 36, 37, 38, 39, 40, 41, 42, 43, 44, 45, 46, 47, 48, 49, 50, 51, 52, 53, 54, 55, 56] (by decide +kernel) (by decide +kernel)
set_option maxRecDepth 20000 in
theorem gX8_lord_X8_seatsOf : GoodIn wsX8_lord (wsV RX8 150 RX8 yX8_seatsOf wsX8_seatsOf) := goodIn_app (goodIn_of _ (by decide +kernel)) ggX8_lord_X8_seatsOf
theorem dX8_lord_0 : decode cX8_lord 0 = .ok (.aload_n 0, 1) := by decide +kernel
theorem dX8_lord_1 : decode cX8_lord 1 = .ok (.iload_n 1, 1) := by decide +kernel
theorem dX8_lord_2 : decode cX8_lord 2 = .ok (.invokevirtual 162, 3) := by decide +kernel
theorem dX8_lord_5 : decode cX8_lord 5 = .ok (.ifCond .eq 15, 3) := by decide +kernel
theorem dX8_lord_8 : decode cX8_lord 8 = .ok (.iload_n 2, 1) := by decide +kernel
theorem dX8_lord_9 : decode cX8_lord 9 = .ok (.i2l, 1) := by decide +kernel
theorem dX8_lord_10 : decode cX8_lord 10 = .ok (.lconst 0, 1) := by decide +kernel
theorem dX8_lord_11 : decode cX8_lord 11 = .ok (.ldc2_w 166, 3) := by decide +kernel
theorem dX8_lord_14 : decode cX8_lord 14 = .ok (.invokestatic 52, 3) := by decide +kernel
theorem dX8_lord_17 : decode cX8_lord 17 = .ok (.ifCond .ne 5, 3) := by decide +kernel
theorem dX8_lord_20 : decode cX8_lord 20 = .ok (.iconst (-1), 1) := by decide +kernel
theorem dX8_lord_21 : decode cX8_lord 21 = .ok (.ireturn, 1) := by decide +kernel
theorem dX8_lord_22 : decode cX8_lord 22 = .ok (.aload_n 0, 1) := by decide +kernel
theorem dX8_lord_23 : decode cX8_lord 23 = .ok (.iconst 1, 1) := by decide +kernel
theorem dX8_lord_24 : decode cX8_lord 24 = .ok (.iload_n 1, 1) := by decide +kernel
theorem dX8_lord_25 : decode cX8_lord 25 = .ok (.ishl, 1) := by decide +kernel
theorem dX8_lord_26 : decode cX8_lord 26 = .ok (.invokevirtual 147, 3) := by decide +kernel
theorem dX8_lord_29 : decode cX8_lord 29 = .ok (.istore_n 3, 1) := by decide +kernel
theorem dX8_lord_30 : decode cX8_lord 30 = .ok (.iload_n 2, 1) := by decide +kernel
theorem dX8_lord_31 : decode cX8_lord 31 = .ok (.ifCond .ne 12, 3) := by decide +kernel
theorem dX8_lord_34 : decode cX8_lord 34 = .ok (.aload_n 0, 1) := by decide +kernel
theorem dX8_lord_35 : decode cX8_lord 35 = .ok (.getfield 7, 3) := by decide +kernel
theorem dX8_lord_38 : decode cX8_lord 38 = .ok (.iload_n 1, 1) := by decide +kernel
theorem dX8_lord_39 : decode cX8_lord 39 = .ok (.iaload, 1) := by decide +kernel
theorem dX8_lord_40 : decode cX8_lord 40 = .ok (.goto 17, 3) := by decide +kernel
theorem dX8_lord_43 : decode cX8_lord 43 = .ok (.iload_n 2, 1) := by decide +kernel
theorem dX8_lord_44 : decode cX8_lord 44 = .ok (.iconst 1, 1) := by decide +kernel
theorem dX8_lord_45 : decode cX8_lord 45 = .ok (.if_icmp .ne 7, 3) := by decide +kernel
theorem dX8_lord_48 : decode cX8_lord 48 = .ok (.iload_n 3, 1) := by decide +kernel
theorem dX8_lord_49 : decode cX8_lord 49 = .ok (.goto 8, 3) := by decide +kernel
theorem dX8_lord_52 : decode cX8_lord 52 = .ok (.aload_n 0, 1) := by decide +kernel
theorem dX8_lord_53 : decode cX8_lord 53 = .ok (.iload_n 3, 1) := by decide +kernel
theorem dX8_lord_54 : decode cX8_lord 54 = .ok (.invokevirtual 150, 3) := by decide +kernel
theorem dX8_lord_57 : decode cX8_lord 57 = .ok (.ireturn, 1) := by decide +kernel
theorem dX8_orNone_0 : decode cX8_orNone 0 = .ok (.iload_n 0, 1) := by decide +kernel
theorem dX8_orNone_1 : decode cX8_orNone 1 = .ok (.ifCond .ge 8, 3) := by decide +kernel
theorem dX8_orNone_4 : decode cX8_orNone 4 = .ok (.bipush (-4), 2) := by decide +kernel
theorem dX8_orNone_6 : decode cX8_orNone 6 = .ok (.goto 4, 3) := by decide +kernel
theorem dX8_orNone_9 : decode cX8_orNone 9 = .ok (.iload_n 0, 1) := by decide +kernel
theorem dX8_orNone_10 : decode cX8_orNone 10 = .ok (.ireturn, 1) := by decide +kernel
set_option maxRecDepth 20000 in
theorem ggX8_borough_X8_isBorough : GoodIn wsX8_borough wsX8_isBorough := goodIn_r _ [6, 7, 8, 9, 5, 10, 26, 27, 28, 29, 30, 31, 32, 33, 34, 35, 36, 37, 38, 39, 40, 41, 42, 43, 44, 45, 46, 47, 48, 49, 50, 51, 52, 53, 54, 55, 56, 57] (by decide +kernel) (by decide +kernel)
set_option maxRecDepth 20000 in
theorem gX8_borough_X8_isBorough : GoodIn wsX8_borough (wsV RX8 168 RX8 yX8_isBorough wsX8_isBorough) := goodIn_app (goodIn_of _ (by decide +kernel)) ggX8_borough_X8_isBorough
set_option maxRecDepth 20000 in
theorem ggX8_borough_X8_ownerOf : GoodIn wsX8_borough wsX8_ownerOf := goodIn_r _ [14, 1, 26, 27, 28, 29, 30, 31, 32, 33, 34, 35, 36, 37, 38, 39, 40, 41, 42, 43, 44, 45, 46, 47, 48, 49, 50, 51, 52, 53, 54, 55, 56, 57] (by decide +kernel) (by decide +kernel)
set_option maxRecDepth 20000 in
theorem gX8_borough_X8_ownerOf : GoodIn wsX8_borough (wsV RX8 141 RX8 yX8_ownerOf wsX8_ownerOf) := goodIn_app (goodIn_of _ (by decide +kernel)) ggX8_borough_X8_ownerOf
set_option maxRecDepth 20000 in
theorem ggX8_borough_X8_orNone : GoodIn wsX8_borough wsX8_orNone := goodIn_r _ [17] (by decide +kernel) (by decide +kernel)
set_option maxRecDepth 20000 in
theorem gX8_borough_X8_orNone : GoodIn wsX8_borough (va_wsS RX8 171 yX8_orNone wsX8_orNone) := goodIn_app (goodIn_of _ (by decide +kernel)) ggX8_borough_X8_orNone
set_option maxRecDepth 20000 in
theorem ggX8_borough_X8_votesOf : GoodIn wsX8_borough wsX8_votesOf := goodIn_r _ [21, 1, 26, 27, 28, 29, 30, 31, 32, 33, 34, 35, 36, 37, 38, 39, 40, 41, 42, 43, 44, 45, 46, 47, 48, 49, 50, 51, 52, 53, 54, 55, 56, 57] (by decide +kernel) (by decide +kernel)
set_option maxRecDepth 20000 in
theorem gX8_borough_X8_votesOf : GoodIn wsX8_borough (wsV RX8 138 RX8 yX8_votesOf wsX8_votesOf) := goodIn_app (goodIn_of _ (by decide +kernel)) ggX8_borough_X8_votesOf
set_option maxRecDepth 20000 in
theorem ggX8_borough_X8_costOf : GoodIn wsX8_borough wsX8_costOf := goodIn_r _ [25, 1, 18, 19, 20, 5, 21, 26, 27, 28, 29, 30, 31, 32, 33, 34, 35, 36, 37, 38, 39, 40, 41, 42, 43, 44, 45, 46, 47, 48, 49, 50, 51, 52, 53, 54, 55, 56, 57] (by decide +kernel) (by decide +kernel)
set_option maxRecDepth 20000 in
theorem gX8_borough_X8_costOf : GoodIn wsX8_borough (wsV RX8 174 RX8 yX8_costOf wsX8_costOf) := goodIn_app (goodIn_of _ (by decide +kernel)) ggX8_borough_X8_costOf
theorem dX8_borough_0 : decode cX8_borough 0 = .ok (.aload_n 0, 1) := by decide +kernel
theorem dX8_borough_1 : decode cX8_borough 1 = .ok (.iload_n 1, 1) := by decide +kernel
theorem dX8_borough_2 : decode cX8_borough 2 = .ok (.invokevirtual 168, 3) := by decide +kernel
theorem dX8_borough_5 : decode cX8_borough 5 = .ok (.ifCond .ne 5, 3) := by decide +kernel
theorem dX8_borough_8 : decode cX8_borough 8 = .ok (.iconst (-1), 1) := by decide +kernel
theorem dX8_borough_9 : decode cX8_borough 9 = .ok (.ireturn, 1) := by decide +kernel
theorem dX8_borough_10 : decode cX8_borough 10 = .ok (.iload_n 2, 1) := by decide +kernel
theorem dX8_borough_11 : decode cX8_borough 11 = .ok (.tableswitch 72 0 5 #[37, 37, 37, 51, 60, 66], 37) := by decide +kernel
theorem dX8_borough_48 : decode cX8_borough 48 = .ok (.aload_n 0, 1) := by decide +kernel
theorem dX8_borough_49 : decode cX8_borough 49 = .ok (.getfield 7, 3) := by decide +kernel
theorem dX8_borough_52 : decode cX8_borough 52 = .ok (.iconst 4, 1) := by decide +kernel
theorem dX8_borough_53 : decode cX8_borough 53 = .ok (.bipush 6, 2) := by decide +kernel
theorem dX8_borough_55 : decode cX8_borough 55 = .ok (.iload_n 2, 1) := by decide +kernel
theorem dX8_borough_56 : decode cX8_borough 56 = .ok (.imul, 1) := by decide +kernel
theorem dX8_borough_57 : decode cX8_borough 57 = .ok (.iadd, 1) := by decide +kernel
theorem dX8_borough_58 : decode cX8_borough 58 = .ok (.iload_n 1, 1) := by decide +kernel
theorem dX8_borough_59 : decode cX8_borough 59 = .ok (.iadd, 1) := by decide +kernel
theorem dX8_borough_60 : decode cX8_borough 60 = .ok (.iaload, 1) := by decide +kernel
theorem dX8_borough_61 : decode cX8_borough 61 = .ok (.ireturn, 1) := by decide +kernel
theorem dX8_borough_62 : decode cX8_borough 62 = .ok (.aload_n 0, 1) := by decide +kernel
theorem dX8_borough_63 : decode cX8_borough 63 = .ok (.iload_n 1, 1) := by decide +kernel
theorem dX8_borough_64 : decode cX8_borough 64 = .ok (.invokevirtual 141, 3) := by decide +kernel
theorem dX8_borough_67 : decode cX8_borough 67 = .ok (.invokestatic 171, 3) := by decide +kernel
theorem dX8_borough_70 : decode cX8_borough 70 = .ok (.ireturn, 1) := by decide +kernel
theorem dX8_borough_71 : decode cX8_borough 71 = .ok (.aload_n 0, 1) := by decide +kernel
theorem dX8_borough_72 : decode cX8_borough 72 = .ok (.iload_n 1, 1) := by decide +kernel
theorem dX8_borough_73 : decode cX8_borough 73 = .ok (.invokevirtual 138, 3) := by decide +kernel
theorem dX8_borough_76 : decode cX8_borough 76 = .ok (.ireturn, 1) := by decide +kernel
theorem dX8_borough_77 : decode cX8_borough 77 = .ok (.aload_n 0, 1) := by decide +kernel
theorem dX8_borough_78 : decode cX8_borough 78 = .ok (.iload_n 1, 1) := by decide +kernel
theorem dX8_borough_79 : decode cX8_borough 79 = .ok (.invokevirtual 174, 3) := by decide +kernel
theorem dX8_borough_82 : decode cX8_borough 82 = .ok (.ireturn, 1) := by decide +kernel
theorem dX8_borough_83 : decode cX8_borough 83 = .ok (.iconst (-1), 1) := by decide +kernel
theorem dX8_borough_84 : decode cX8_borough 84 = .ok (.ireturn, 1) := by decide +kernel
theorem dX8_puts_0 : decode cX8_puts 0 = .ok (.iload_n 1, 1) := by decide +kernel
theorem dX8_puts_1 : decode cX8_puts 1 = .ok (.ifCond .ne 5, 3) := by decide +kernel
theorem dX8_puts_4 : decode cX8_puts 4 = .ok (.iconst (-1), 1) := by decide +kernel
theorem dX8_puts_5 : decode cX8_puts 5 = .ok (.ireturn, 1) := by decide +kernel
theorem dX8_puts_6 : decode cX8_puts 6 = .ok (.aload_n 0, 1) := by decide +kernel
theorem dX8_puts_7 : decode cX8_puts 7 = .ok (.getfield 7, 3) := by decide +kernel
theorem dX8_puts_10 : decode cX8_puts 10 = .ok (.iload_n 2, 1) := by decide +kernel
theorem dX8_puts_11 : decode cX8_puts 11 = .ok (.iaload, 1) := by decide +kernel
theorem dX8_puts_12 : decode cX8_puts 12 = .ok (.iload 4, 2) := by decide +kernel
theorem dX8_puts_14 : decode cX8_puts 14 = .ok (.iadd, 1) := by decide +kernel
theorem dX8_puts_15 : decode cX8_puts 15 = .ok (.istore 5, 2) := by decide +kernel
theorem dX8_puts_17 : decode cX8_puts 17 = .ok (.aload_n 0, 1) := by decide +kernel
theorem dX8_puts_18 : decode cX8_puts 18 = .ok (.getfield 7, 3) := by decide +kernel
theorem dX8_puts_21 : decode cX8_puts 21 = .ok (.iload_n 2, 1) := by decide +kernel
theorem dX8_puts_22 : decode cX8_puts 22 = .ok (.iload_n 3, 1) := by decide +kernel
theorem dX8_puts_23 : decode cX8_puts 23 = .ok (.iload 4, 2) := by decide +kernel
theorem dX8_puts_25 : decode cX8_puts 25 = .ok (.isub, 1) := by decide +kernel
theorem dX8_puts_26 : decode cX8_puts 26 = .ok (.iastore, 1) := by decide +kernel
theorem dX8_puts_27 : decode cX8_puts 27 = .ok (.iload 5, 2) := by decide +kernel
theorem dX8_puts_29 : decode cX8_puts 29 = .ok (.ireturn, 1) := by decide +kernel
set_option maxRecDepth 20000 in
theorem ggX8_alter_X8_in : GoodIn wsX8_alter wsX8_in := goodIn_r _ [6] (by decide +kernel) (by decide +kernel)
set_option maxRecDepth 20000 in
theorem gX8_alter_X8_in : GoodIn wsX8_alter (va_wsS RX8 52 yX8_in wsX8_in) := goodIn_app (goodIn_of _ (by decide +kernel)) ggX8_alter_X8_in
set_option maxRecDepth 20000 in
theorem ggX8_alter_X8_isBorough : GoodIn wsX8_alter wsX8_isBorough := goodIn_r _ [10, 11, 3, 4, 5, 6, 17, 18, 19, 20, 21, 22, 23, 24, 25, 26, 27, 28, 29, 30, 31, 32, 33, 34, 35, 36, 37, 38, 39, 40, 41, 42, 43, 44, 45, 46, 47, 48] (by decide +kernel) (by decide +kernel)
set_option maxRecDepth 20000 in
theorem gX8_alter_X8_isBorough : GoodIn wsX8_alter (wsV RX8 168 RX8 yX8_isBorough wsX8_isBorough) := goodIn_app (goodIn_of _ (by decide +kernel)) ggX8_alter_X8_isBorough
set_option maxRecDepth 20000 in
theorem ggX8_alter_X8_puts : GoodIn wsX8_alter wsX8_puts := goodIn_r _ [15, 16, 17, 18, 19, 20, 21, 22, 23, 24, 25, 26, 27, 28, 29, 30, 31, 32, 33, 34, 35, 36, 37, 38, 39, 40, 41, 42, 43, 44, 45, 46, 47, 48] (by decide +kernel) (by decide +kernel)
set_option maxRecDepth 20000 in
theorem gX8_alter_X8_puts : GoodIn wsX8_alter (wsV RX8 181 RX8 yX8_puts wsX8_puts) := goodIn_app (goodIn_of _ (by decide +kernel)) ggX8_alter_X8_puts
theorem dX8_alter_0 : decode cX8_alter 0 = .ok (.iload_n 2, 1) := by decide +kernel
theorem dX8_alter_1 : decode cX8_alter 1 = .ok (.ifCond .ne 15, 3) := by decide +kernel
theorem dX8_alter_4 : decode cX8_alter 4 = .ok (.iload_n 3, 1) := by decide +kernel
theorem dX8_alter_5 : decode cX8_alter 5 = .ok (.i2l, 1) := by decide +kernel
theorem dX8_alter_6 : decode cX8_alter 6 = .ok (.lconst 0, 1) := by decide +kernel
theorem dX8_alter_7 : decode cX8_alter 7 = .ok (.ldc2_w 177, 3) := by decide +kernel
theorem dX8_alter_10 : decode cX8_alter 10 = .ok (.invokestatic 52, 3) := by decide +kernel
theorem dX8_alter_13 : decode cX8_alter 13 = .ok (.goto 42, 3) := by decide +kernel
theorem dX8_alter_16 : decode cX8_alter 16 = .ok (.iload_n 2, 1) := by decide +kernel
theorem dX8_alter_17 : decode cX8_alter 17 = .ok (.iconst 1, 1) := by decide +kernel
theorem dX8_alter_18 : decode cX8_alter 18 = .ok (.if_icmp .ne 15, 3) := by decide +kernel
theorem dX8_alter_21 : decode cX8_alter 21 = .ok (.iload_n 3, 1) := by decide +kernel
theorem dX8_alter_22 : decode cX8_alter 22 = .ok (.i2l, 1) := by decide +kernel
theorem dX8_alter_23 : decode cX8_alter 23 = .ok (.lconst 1, 1) := by decide +kernel
theorem dX8_alter_24 : decode cX8_alter 24 = .ok (.ldc2_w 179, 3) := by decide +kernel
theorem dX8_alter_27 : decode cX8_alter 27 = .ok (.invokestatic 52, 3) := by decide +kernel
theorem dX8_alter_30 : decode cX8_alter 30 = .ok (.goto 25, 3) := by decide +kernel
theorem dX8_alter_33 : decode cX8_alter 33 = .ok (.iload_n 2, 1) := by decide +kernel
theorem dX8_alter_34 : decode cX8_alter 34 = .ok (.iconst 2, 1) := by decide +kernel
theorem dX8_alter_35 : decode cX8_alter 35 = .ok (.if_icmp .ne 19, 3) := by decide +kernel
theorem dX8_alter_38 : decode cX8_alter 38 = .ok (.iload_n 3, 1) := by decide +kernel
theorem dX8_alter_39 : decode cX8_alter 39 = .ok (.i2l, 1) := by decide +kernel
theorem dX8_alter_40 : decode cX8_alter 40 = .ok (.lconst 0, 1) := by decide +kernel
theorem dX8_alter_41 : decode cX8_alter 41 = .ok (.ldc2_w 177, 3) := by decide +kernel
theorem dX8_alter_44 : decode cX8_alter 44 = .ok (.invokestatic 52, 3) := by decide +kernel
theorem dX8_alter_47 : decode cX8_alter 47 = .ok (.ifCond .eq 7, 3) := by decide +kernel
theorem dX8_alter_50 : decode cX8_alter 50 = .ok (.iconst 1, 1) := by decide +kernel
theorem dX8_alter_51 : decode cX8_alter 51 = .ok (.goto 4, 3) := by decide +kernel
theorem dX8_alter_54 : decode cX8_alter 54 = .ok (.iconst 0, 1) := by decide +kernel
theorem dX8_alter_55 : decode cX8_alter 55 = .ok (.istore 4, 2) := by decide +kernel
theorem dX8_alter_57 : decode cX8_alter 57 = .ok (.aload_n 0, 1) := by decide +kernel
theorem dX8_alter_58 : decode cX8_alter 58 = .ok (.aload_n 0, 1) := by decide +kernel
theorem dX8_alter_59 : decode cX8_alter 59 = .ok (.iload_n 1, 1) := by decide +kernel
theorem dX8_alter_60 : decode cX8_alter 60 = .ok (.invokevirtual 168, 3) := by decide +kernel
theorem dX8_alter_63 : decode cX8_alter 63 = .ok (.ifCond .eq 12, 3) := by decide +kernel
theorem dX8_alter_66 : decode cX8_alter 66 = .ok (.iload 4, 2) := by decide +kernel
theorem dX8_alter_68 : decode cX8_alter 68 = .ok (.ifCond .eq 7, 3) := by decide +kernel
theorem dX8_alter_71 : decode cX8_alter 71 = .ok (.iconst 1, 1) := by decide +kernel
theorem dX8_alter_72 : decode cX8_alter 72 = .ok (.goto 4, 3) := by decide +kernel
theorem dX8_alter_75 : decode cX8_alter 75 = .ok (.iconst 0, 1) := by decide +kernel
theorem dX8_alter_76 : decode cX8_alter 76 = .ok (.iconst 4, 1) := by decide +kernel
theorem dX8_alter_77 : decode cX8_alter 77 = .ok (.bipush 6, 2) := by decide +kernel
theorem dX8_alter_79 : decode cX8_alter 79 = .ok (.iload_n 2, 1) := by decide +kernel
theorem dX8_alter_80 : decode cX8_alter 80 = .ok (.imul, 1) := by decide +kernel
theorem dX8_alter_81 : decode cX8_alter 81 = .ok (.iadd, 1) := by decide +kernel
theorem dX8_alter_82 : decode cX8_alter 82 = .ok (.iload_n 1, 1) := by decide +kernel
theorem dX8_alter_83 : decode cX8_alter 83 = .ok (.iadd, 1) := by decide +kernel
theorem dX8_alter_84 : decode cX8_alter 84 = .ok (.iload_n 3, 1) := by decide +kernel
theorem dX8_alter_85 : decode cX8_alter 85 = .ok (.iconst 0, 1) := by decide +kernel
theorem dX8_alter_86 : decode cX8_alter 86 = .ok (.invokevirtual 181, 3) := by decide +kernel
theorem dX8_alter_89 : decode cX8_alter 89 = .ok (.ireturn, 1) := by decide +kernel
set_option maxRecDepth 20000 in
theorem ggX8_give_X8_isBorough : GoodIn wsX8_give wsX8_isBorough := goodIn_r _ [6, 7, 8, 9, 5, 10, 23, 24, 25, 26, 27, 28, 29, 30, 31, 32, 33, 34, 35, 36, 37, 38, 39, 40, 41, 42, 43, 44, 45, 46, 47, 48, 49, 50, 51, 52, 53, 54] (by decide +kernel) (by decide +kernel)
set_option maxRecDepth 20000 in
theorem gX8_give_X8_isBorough : GoodIn wsX8_give (wsV RX8 168 RX8 yX8_isBorough wsX8_isBorough) := goodIn_app (goodIn_of _ (by decide +kernel)) ggX8_give_X8_isBorough
set_option maxRecDepth 20000 in
theorem ggX8_give_X8_isLord : GoodIn wsX8_give wsX8_isLord := goodIn_r _ [14, 15, 8, 9, 5, 10, 23, 24, 25, 26, 27, 28, 29, 30, 31, 32, 33, 34, 35, 36, 37, 38, 39, 40, 41, 42, 43, 44, 45, 46, 47, 48, 49, 50, 51, 52, 53, 54] (by decide +kernel) (by decide +kernel)
set_option maxRecDepth 20000 in
theorem gX8_give_X8_isLord : GoodIn wsX8_give (wsV RX8 162 RX8 yX8_isLord wsX8_isLord) := goodIn_app (goodIn_of _ (by decide +kernel)) ggX8_give_X8_isLord
set_option maxRecDepth 20000 in
theorem ggX8_give_X8_ownerOf : GoodIn wsX8_give wsX8_ownerOf := goodIn_r _ [19, 1, 23, 24, 25, 26, 27, 28, 29, 30, 31, 32, 33, 34, 35, 36, 37, 38, 39, 40, 41, 42, 43, 44, 45, 46, 47, 48, 49, 50, 51, 52, 53, 54] (by decide +kernel) (by decide +kernel)
set_option maxRecDepth 20000 in
theorem gX8_give_X8_ownerOf : GoodIn wsX8_give (wsV RX8 141 RX8 yX8_ownerOf wsX8_ownerOf) := goodIn_app (goodIn_of _ (by decide +kernel)) ggX8_give_X8_ownerOf
set_option maxRecDepth 20000 in
theorem ggX8_give_X8_orNone : GoodIn wsX8_give wsX8_orNone := goodIn_r _ [22] (by decide +kernel) (by decide +kernel)
set_option maxRecDepth 20000 in
theorem gX8_give_X8_orNone : GoodIn wsX8_give (va_wsS RX8 171 yX8_orNone wsX8_orNone) := goodIn_app (goodIn_of _ (by decide +kernel)) ggX8_give_X8_orNone
theorem dX8_give_0 : decode cX8_give 0 = .ok (.aload_n 0, 1) := by decide +kernel
theorem dX8_give_1 : decode cX8_give 1 = .ok (.iload_n 1, 1) := by decide +kernel
theorem dX8_give_2 : decode cX8_give 2 = .ok (.invokevirtual 168, 3) := by decide +kernel
theorem dX8_give_5 : decode cX8_give 5 = .ok (.ifCond .eq 17, 3) := by decide +kernel
theorem dX8_give_8 : decode cX8_give 8 = .ok (.iload_n 2, 1) := by decide +kernel
theorem dX8_give_9 : decode cX8_give 9 = .ok (.bipush (-4), 2) := by decide +kernel
theorem dX8_give_11 : decode cX8_give 11 = .ok (.if_icmp .eq 13, 3) := by decide +kernel
theorem dX8_give_14 : decode cX8_give 14 = .ok (.aload_n 0, 1) := by decide +kernel
theorem dX8_give_15 : decode cX8_give 15 = .ok (.iload_n 2, 1) := by decide +kernel
theorem dX8_give_16 : decode cX8_give 16 = .ok (.invokevirtual 162, 3) := by decide +kernel
theorem dX8_give_19 : decode cX8_give 19 = .ok (.ifCond .ne 5, 3) := by decide +kernel
theorem dX8_give_22 : decode cX8_give 22 = .ok (.iconst (-1), 1) := by decide +kernel
theorem dX8_give_23 : decode cX8_give 23 = .ok (.ireturn, 1) := by decide +kernel
theorem dX8_give_24 : decode cX8_give 24 = .ok (.aload_n 0, 1) := by decide +kernel
theorem dX8_give_25 : decode cX8_give 25 = .ok (.iload_n 1, 1) := by decide +kernel
theorem dX8_give_26 : decode cX8_give 26 = .ok (.invokevirtual 141, 3) := by decide +kernel
theorem dX8_give_29 : decode cX8_give 29 = .ok (.istore_n 3, 1) := by decide +kernel
theorem dX8_give_30 : decode cX8_give 30 = .ok (.aload_n 0, 1) := by decide +kernel
theorem dX8_give_31 : decode cX8_give 31 = .ok (.getfield 7, 3) := by decide +kernel
theorem dX8_give_34 : decode cX8_give 34 = .ok (.bipush 22, 2) := by decide +kernel
theorem dX8_give_36 : decode cX8_give 36 = .ok (.iload_n 1, 1) := by decide +kernel
theorem dX8_give_37 : decode cX8_give 37 = .ok (.iadd, 1) := by decide +kernel
theorem dX8_give_38 : decode cX8_give 38 = .ok (.iload_n 2, 1) := by decide +kernel
theorem dX8_give_39 : decode cX8_give 39 = .ok (.bipush (-4), 2) := by decide +kernel
theorem dX8_give_41 : decode cX8_give 41 = .ok (.if_icmp .ne 7, 3) := by decide +kernel
theorem dX8_give_44 : decode cX8_give 44 = .ok (.iconst 0, 1) := by decide +kernel
theorem dX8_give_45 : decode cX8_give 45 = .ok (.goto 6, 3) := by decide +kernel
theorem dX8_give_48 : decode cX8_give 48 = .ok (.iload_n 2, 1) := by decide +kernel
theorem dX8_give_49 : decode cX8_give 49 = .ok (.iconst 1, 1) := by decide +kernel
theorem dX8_give_50 : decode cX8_give 50 = .ok (.iadd, 1) := by decide +kernel
theorem dX8_give_51 : decode cX8_give 51 = .ok (.iastore, 1) := by decide +kernel
theorem dX8_give_52 : decode cX8_give 52 = .ok (.iload_n 3, 1) := by decide +kernel
theorem dX8_give_53 : decode cX8_give 53 = .ok (.invokestatic 171, 3) := by decide +kernel
theorem dX8_give_56 : decode cX8_give 56 = .ok (.ireturn, 1) := by decide +kernel
set_option maxRecDepth 20000 in
theorem ggX8_purse_X8_isLord : GoodIn wsX8_purse wsX8_isLord := goodIn_r _ [6, 7, 8, 9, 5, 10, 16, 17, 18, 19, 20, 21, 22, 23, 24, 25, 26, 27, 28, 29, 30, 31, 32, 33, 34, 35, 36, 37, 38, 39, 40, 41, 42, 43, 44, 45, 46, 47] (by decide +kernel) (by decide +kernel)
set_option maxRecDepth 20000 in
theorem gX8_purse_X8_isLord : GoodIn wsX8_purse (wsV RX8 162 RX8 yX8_isLord wsX8_isLord) := goodIn_app (goodIn_of _ (by decide +kernel)) ggX8_purse_X8_isLord
set_option maxRecDepth 20000 in
theorem ggX8_purse_X8_in : GoodIn wsX8_purse wsX8_in := goodIn_r _ [10] (by decide +kernel) (by decide +kernel)
set_option maxRecDepth 20000 in
theorem gX8_purse_X8_in : GoodIn wsX8_purse (va_wsS RX8 52 yX8_in wsX8_in) := goodIn_app (goodIn_of _ (by decide +kernel)) ggX8_purse_X8_in
set_option maxRecDepth 20000 in
theorem ggX8_purse_X8_puts : GoodIn wsX8_purse wsX8_puts := goodIn_r _ [14, 15, 16, 17, 18, 19, 20, 21, 22, 23, 24, 25, 26, 27, 28, 29, 30, 31, 32, 33, 34, 35, 36, 37, 38, 39, 40, 41, 42, 43, 44, 45, 46, 47] (by decide +kernel) (by decide +kernel)
set_option maxRecDepth 20000 in
theorem gX8_purse_X8_puts : GoodIn wsX8_purse (wsV RX8 181 RX8 yX8_puts wsX8_puts) := goodIn_app (goodIn_of _ (by decide +kernel)) ggX8_purse_X8_puts
theorem dX8_purse_0 : decode cX8_purse 0 = .ok (.aload_n 0, 1) := by decide +kernel
theorem dX8_purse_1 : decode cX8_purse 1 = .ok (.aload_n 0, 1) := by decide +kernel
theorem dX8_purse_2 : decode cX8_purse 2 = .ok (.iload_n 1, 1) := by decide +kernel
theorem dX8_purse_3 : decode cX8_purse 3 = .ok (.invokevirtual 162, 3) := by decide +kernel
theorem dX8_purse_6 : decode cX8_purse 6 = .ok (.ifCond .eq 19, 3) := by decide +kernel
theorem dX8_purse_9 : decode cX8_purse 9 = .ok (.iload_n 2, 1) := by decide +kernel
theorem dX8_purse_10 : decode cX8_purse 10 = .ok (.i2l, 1) := by decide +kernel
theorem dX8_purse_11 : decode cX8_purse 11 = .ok (.lconst 0, 1) := by decide +kernel
theorem dX8_purse_12 : decode cX8_purse 12 = .ok (.ldc2_w 185, 3) := by decide +kernel
theorem dX8_purse_15 : decode cX8_purse 15 = .ok (.invokestatic 52, 3) := by decide +kernel
theorem dX8_purse_18 : decode cX8_purse 18 = .ok (.ifCond .eq 7, 3) := by decide +kernel
theorem dX8_purse_21 : decode cX8_purse 21 = .ok (.iconst 1, 1) := by decide +kernel
theorem dX8_purse_22 : decode cX8_purse 22 = .ok (.goto 4, 3) := by decide +kernel
theorem dX8_purse_25 : decode cX8_purse 25 = .ok (.iconst 0, 1) := by decide +kernel
theorem dX8_purse_26 : decode cX8_purse 26 = .ok (.iload_n 1, 1) := by decide +kernel
theorem dX8_purse_27 : decode cX8_purse 27 = .ok (.iload_n 2, 1) := by decide +kernel
theorem dX8_purse_28 : decode cX8_purse 28 = .ok (.iconst 0, 1) := by decide +kernel
theorem dX8_purse_29 : decode cX8_purse 29 = .ok (.invokevirtual 181, 3) := by decide +kernel
theorem dX8_purse_32 : decode cX8_purse 32 = .ok (.ireturn, 1) := by decide +kernel
set_option maxRecDepth 20000 in
theorem ggX8_price_X8_in : GoodIn wsX8_price wsX8_in := goodIn_r _ [5] (by decide +kernel) (by decide +kernel)
set_option maxRecDepth 20000 in
theorem gX8_price_X8_in : GoodIn wsX8_price (va_wsS RX8 52 yX8_in wsX8_in) := goodIn_app (goodIn_of _ (by decide +kernel)) ggX8_price_X8_in
set_option maxRecDepth 20000 in
theorem ggX8_price_X8_puts : GoodIn wsX8_price wsX8_puts := goodIn_r _ [9, 10, 11, 12, 13, 14, 15, 16, 17, 18, 19, 20, 21, 22, 23, 24, 25, 26, 27, 28, 29, 30, 31, 32, 33, 34, 35, 36, 37, 38, 39, 40, 41, 42] (by decide +kernel) (by decide +kernel)
set_option maxRecDepth 20000 in
theorem gX8_price_X8_puts : GoodIn wsX8_price (wsV RX8 181 RX8 yX8_puts wsX8_puts) := goodIn_app (goodIn_of _ (by decide +kernel)) ggX8_price_X8_puts
theorem dX8_price_0 : decode cX8_price 0 = .ok (.aload_n 0, 1) := by decide +kernel
theorem dX8_price_1 : decode cX8_price 1 = .ok (.iload_n 1, 1) := by decide +kernel
theorem dX8_price_2 : decode cX8_price 2 = .ok (.i2l, 1) := by decide +kernel
theorem dX8_price_3 : decode cX8_price 3 = .ok (.lconst 0, 1) := by decide +kernel
theorem dX8_price_4 : decode cX8_price 4 = .ok (.ldc2_w 179, 3) := by decide +kernel
theorem dX8_price_7 : decode cX8_price 7 = .ok (.invokestatic 52, 3) := by decide +kernel
theorem dX8_price_10 : decode cX8_price 10 = .ok (.bipush 28, 2) := by decide +kernel
theorem dX8_price_12 : decode cX8_price 12 = .ok (.iload_n 1, 1) := by decide +kernel
theorem dX8_price_13 : decode cX8_price 13 = .ok (.iconst 3, 1) := by decide +kernel
theorem dX8_price_14 : decode cX8_price 14 = .ok (.invokevirtual 181, 3) := by decide +kernel
theorem dX8_price_17 : decode cX8_price 17 = .ok (.ireturn, 1) := by decide +kernel
set_option maxRecDepth 20000 in
theorem ggX8_canBuy_X8_ownerOf : GoodIn wsX8_canBuy wsX8_ownerOf := goodIn_r _ [6, 1, 15, 16, 17, 18, 19, 20, 21, 22, 23, 24, 25, 26, 27, 28, 29, 30, 31, 32, 33, 34, 35, 36, 37, 38, 39, 40, 41, 42, 43, 44, 45, 46] (by decide +kernel) (by decide +kernel)
set_option maxRecDepth 20000 in
theorem gX8_canBuy_X8_ownerOf : GoodIn wsX8_canBuy (wsV RX8 141 RX8 yX8_ownerOf wsX8_ownerOf) := goodIn_app (goodIn_of _ (by decide +kernel)) ggX8_canBuy_X8_ownerOf
set_option maxRecDepth 20000 in
theorem ggX8_canBuy_X8_costOf : GoodIn wsX8_canBuy wsX8_costOf := goodIn_r _ [10, 1, 11, 12, 13, 5, 14, 15, 16, 17, 18, 19, 20, 21, 22, 23, 24, 25, 26, 27, 28, 29, 30, 31, 32, 33, 34, 35, 36, 37, 38, 39, 40, 41, 42, 43, 44, 45, 46] (by decide +kernel) (by decide +kernel)
set_option maxRecDepth 20000 in
theorem gX8_canBuy_X8_costOf : GoodIn wsX8_canBuy (wsV RX8 174 RX8 yX8_costOf wsX8_costOf) := goodIn_app (goodIn_of _ (by decide +kernel)) ggX8_canBuy_X8_costOf
theorem dX8_canBuy_0 : decode cX8_canBuy 0 = .ok (.aload_n 0, 1) := by decide +kernel
theorem dX8_canBuy_1 : decode cX8_canBuy 1 = .ok (.iload_n 2, 1) := by decide +kernel
theorem dX8_canBuy_2 : decode cX8_canBuy 2 = .ok (.invokevirtual 141, 3) := by decide +kernel
theorem dX8_canBuy_5 : decode cX8_canBuy 5 = .ok (.iload_n 1, 1) := by decide +kernel
theorem dX8_canBuy_6 : decode cX8_canBuy 6 = .ok (.if_icmp .eq 21, 3) := by decide +kernel
theorem dX8_canBuy_9 : decode cX8_canBuy 9 = .ok (.aload_n 0, 1) := by decide +kernel
theorem dX8_canBuy_10 : decode cX8_canBuy 10 = .ok (.getfield 7, 3) := by decide +kernel
theorem dX8_canBuy_13 : decode cX8_canBuy 13 = .ok (.iload_n 1, 1) := by decide +kernel
theorem dX8_canBuy_14 : decode cX8_canBuy 14 = .ok (.iaload, 1) := by decide +kernel
theorem dX8_canBuy_15 : decode cX8_canBuy 15 = .ok (.aload_n 0, 1) := by decide +kernel
theorem dX8_canBuy_16 : decode cX8_canBuy 16 = .ok (.iload_n 2, 1) := by decide +kernel
theorem dX8_canBuy_17 : decode cX8_canBuy 17 = .ok (.invokevirtual 174, 3) := by decide +kernel
theorem dX8_canBuy_20 : decode cX8_canBuy 20 = .ok (.if_icmp .lt 7, 3) := by decide +kernel
theorem dX8_canBuy_23 : decode cX8_canBuy 23 = .ok (.iconst 1, 1) := by decide +kernel
theorem dX8_canBuy_24 : decode cX8_canBuy 24 = .ok (.goto 4, 3) := by decide +kernel
theorem dX8_canBuy_27 : decode cX8_canBuy 27 = .ok (.iconst 0, 1) := by decide +kernel
theorem dX8_canBuy_28 : decode cX8_canBuy 28 = .ok (.ireturn, 1) := by decide +kernel
set_option maxRecDepth 20000 in
theorem ggX8_buys_X8_isLord : GoodIn wsX8_buys wsX8_isLord := goodIn_r _ [6, 7, 8, 9, 5, 10, 32, 33, 34, 35, 36, 37, 38, 39, 40, 41, 42, 43, 44, 45, 46, 47, 48, 49, 50, 51, 52, 53, 54, 55, 56, 57, 58, 59, 60, 61, 62, 63] (by decide +kernel) (by decide +kernel)
set_option maxRecDepth 20000 in
theorem gX8_buys_X8_isLord : GoodIn wsX8_buys (wsV RX8 162 RX8 yX8_isLord wsX8_isLord) := goodIn_app (goodIn_of _ (by decide +kernel)) ggX8_buys_X8_isLord
set_option maxRecDepth 20000 in
theorem ggX8_buys_X8_isBorough : GoodIn wsX8_buys wsX8_isBorough := goodIn_r _ [14, 15, 8, 9, 5, 10, 32, 33, 34, 35, 36, 37, 38, 39, 40, 41, 42, 43, 44, 45, 46, 47, 48, 49, 50, 51, 52, 53, 54, 55, 56, 57, 58, 59, 60, 61, 62, 63] (by decide +kernel) (by decide +kernel)
set_option maxRecDepth 20000 in
theorem gX8_buys_X8_isBorough : GoodIn wsX8_buys (wsV RX8 168 RX8 yX8_isBorough wsX8_isBorough) := goodIn_app (goodIn_of _ (by decide +kernel)) ggX8_buys_X8_isBorough
set_option maxRecDepth 20000 in
theorem ggX8_buys_X8_canBuy : GoodIn wsX8_buys wsX8_canBuy := goodIn_r _ [19, 1, 20, 21, 22, 5, 23, 24, 25, 26, 27, 28, 29, 30, 31, 32, 33, 34, 35, 36, 37, 38, 39, 40, 41, 42, 43, 44, 45, 46, 47, 48, 49, 50, 51, 52, 53, 54, 55, 56, 57, 58, 59, 60, 61, 62, 63] (by decide +kernel) (by decide +kernel)
set_option maxRecDepth 20000 in
theorem gX8_buys_X8_canBuy : GoodIn wsX8_buys (wsV RX8 187 RX8 yX8_canBuy wsX8_canBuy) := goodIn_app (goodIn_of _ (by decide +kernel)) ggX8_buys_X8_canBuy
set_option maxRecDepth 20000 in
theorem ggX8_buys_X8_costOf : GoodIn wsX8_buys wsX8_costOf := goodIn_r _ [27, 1, 28, 29, 30, 5, 31, 32, 33, 34, 35, 36, 37, 38, 39, 40, 41, 42, 43, 44, 45, 46, 47, 48, 49, 50, 51, 52, 53, 54, 55, 56, 57, 58, 59, 60, 61, 62, 63] (by decide +kernel) (by decide +kernel)
set_option maxRecDepth 20000 in
theorem gX8_buys_X8_costOf : GoodIn wsX8_buys (wsV RX8 174 RX8 yX8_costOf wsX8_costOf) := goodIn_app (goodIn_of _ (by decide +kernel)) ggX8_buys_X8_costOf
set_option maxRecDepth 20000 in
theorem ggX8_buys_X8_ownerOf : GoodIn wsX8_buys wsX8_ownerOf := goodIn_r _ [23, 1, 32, 33, 34, 35, 36, 37, 38, 39, 40, 41, 42, 43, 44, 45, 46, 47, 48, 49, 50, 51, 52, 53, 54, 55, 56, 57, 58, 59, 60, 61, 62, 63] (by decide +kernel) (by decide +kernel)
set_option maxRecDepth 20000 in
theorem gX8_buys_X8_ownerOf : GoodIn wsX8_buys (wsV RX8 141 RX8 yX8_ownerOf wsX8_ownerOf) := goodIn_app (goodIn_of _ (by decide +kernel)) ggX8_buys_X8_ownerOf
theorem dX8_buys_0 : decode cX8_buys 0 = .ok (.aload_n 0, 1) := by decide +kernel
theorem dX8_buys_1 : decode cX8_buys 1 = .ok (.iload_n 1, 1) := by decide +kernel
theorem dX8_buys_2 : decode cX8_buys 2 = .ok (.invokevirtual 162, 3) := by decide +kernel
theorem dX8_buys_5 : decode cX8_buys 5 = .ok (.ifCond .eq 11, 3) := by decide +kernel
theorem dX8_buys_8 : decode cX8_buys 8 = .ok (.aload_n 0, 1) := by decide +kernel
theorem dX8_buys_9 : decode cX8_buys 9 = .ok (.iload_n 2, 1) := by decide +kernel
theorem dX8_buys_10 : decode cX8_buys 10 = .ok (.invokevirtual 168, 3) := by decide +kernel
theorem dX8_buys_13 : decode cX8_buys 13 = .ok (.ifCond .ne 5, 3) := by decide +kernel
theorem dX8_buys_16 : decode cX8_buys 16 = .ok (.iconst (-1), 1) := by decide +kernel
theorem dX8_buys_17 : decode cX8_buys 17 = .ok (.ireturn, 1) := by decide +kernel
theorem dX8_buys_18 : decode cX8_buys 18 = .ok (.aload_n 0, 1) := by decide +kernel
theorem dX8_buys_19 : decode cX8_buys 19 = .ok (.iload_n 1, 1) := by decide +kernel
theorem dX8_buys_20 : decode cX8_buys 20 = .ok (.iload_n 2, 1) := by decide +kernel
theorem dX8_buys_21 : decode cX8_buys 21 = .ok (.invokevirtual 187, 3) := by decide +kernel
theorem dX8_buys_24 : decode cX8_buys 24 = .ok (.ifCond .ne 6, 3) := by decide +kernel
theorem dX8_buys_27 : decode cX8_buys 27 = .ok (.bipush (-2), 2) := by decide +kernel
theorem dX8_buys_29 : decode cX8_buys 29 = .ok (.ireturn, 1) := by decide +kernel
theorem dX8_buys_30 : decode cX8_buys 30 = .ok (.aload_n 0, 1) := by decide +kernel
theorem dX8_buys_31 : decode cX8_buys 31 = .ok (.iload_n 2, 1) := by decide +kernel
theorem dX8_buys_32 : decode cX8_buys 32 = .ok (.invokevirtual 174, 3) := by decide +kernel
theorem dX8_buys_35 : decode cX8_buys 35 = .ok (.istore_n 3, 1) := by decide +kernel
theorem dX8_buys_36 : decode cX8_buys 36 = .ok (.aload_n 0, 1) := by decide +kernel
theorem dX8_buys_37 : decode cX8_buys 37 = .ok (.iload_n 2, 1) := by decide +kernel
theorem dX8_buys_38 : decode cX8_buys 38 = .ok (.invokevirtual 141, 3) := by decide +kernel
theorem dX8_buys_41 : decode cX8_buys 41 = .ok (.istore 4, 2) := by decide +kernel
theorem dX8_buys_43 : decode cX8_buys 43 = .ok (.iload 4, 2) := by decide +kernel
theorem dX8_buys_45 : decode cX8_buys 45 = .ok (.ifCond .lt 38, 3) := by decide +kernel
theorem dX8_buys_48 : decode cX8_buys 48 = .ok (.aload_n 0, 1) := by decide +kernel
theorem dX8_buys_49 : decode cX8_buys 49 = .ok (.getfield 7, 3) := by decide +kernel
theorem dX8_buys_52 : decode cX8_buys 52 = .ok (.iload 4, 2) := by decide +kernel
theorem dX8_buys_54 : decode cX8_buys 54 = .ok (.aload_n 0, 1) := by decide +kernel
theorem dX8_buys_55 : decode cX8_buys 55 = .ok (.getfield 7, 3) := by decide +kernel
theorem dX8_buys_58 : decode cX8_buys 58 = .ok (.iload 4, 2) := by decide +kernel
theorem dX8_buys_60 : decode cX8_buys 60 = .ok (.iaload, 1) := by decide +kernel
theorem dX8_buys_61 : decode cX8_buys 61 = .ok (.iload_n 3, 1) := by decide +kernel
theorem dX8_buys_62 : decode cX8_buys 62 = .ok (.iadd, 1) := by decide +kernel
theorem dX8_buys_63 : decode cX8_buys 63 = .ok (.bipush 99, 2) := by decide +kernel
theorem dX8_buys_65 : decode cX8_buys 65 = .ok (.if_icmp .le 8, 3) := by decide +kernel
theorem dX8_buys_68 : decode cX8_buys 68 = .ok (.bipush 99, 2) := by decide +kernel
theorem dX8_buys_70 : decode cX8_buys 70 = .ok (.goto 12, 3) := by decide +kernel
theorem dX8_buys_73 : decode cX8_buys 73 = .ok (.aload_n 0, 1) := by decide +kernel
theorem dX8_buys_74 : decode cX8_buys 74 = .ok (.getfield 7, 3) := by decide +kernel
theorem dX8_buys_77 : decode cX8_buys 77 = .ok (.iload 4, 2) := by decide +kernel
theorem dX8_buys_79 : decode cX8_buys 79 = .ok (.iaload, 1) := by decide +kernel
theorem dX8_buys_80 : decode cX8_buys 80 = .ok (.iload_n 3, 1) := by decide +kernel
theorem dX8_buys_81 : decode cX8_buys 81 = .ok (.iadd, 1) := by decide +kernel
theorem dX8_buys_82 : decode cX8_buys 82 = .ok (.iastore, 1) := by decide +kernel
theorem dX8_buys_83 : decode cX8_buys 83 = .ok (.aload_n 0, 1) := by decide +kernel
theorem dX8_buys_84 : decode cX8_buys 84 = .ok (.getfield 7, 3) := by decide +kernel
theorem dX8_buys_87 : decode cX8_buys 87 = .ok (.iload_n 1, 1) := by decide +kernel
theorem dX8_buys_88 : decode cX8_buys 88 = .ok (.dup2, 1) := by decide +kernel
theorem dX8_buys_89 : decode cX8_buys 89 = .ok (.iaload, 1) := by decide +kernel
theorem dX8_buys_90 : decode cX8_buys 90 = .ok (.iload_n 3, 1) := by decide +kernel
theorem dX8_buys_91 : decode cX8_buys 91 = .ok (.isub, 1) := by decide +kernel
theorem dX8_buys_92 : decode cX8_buys 92 = .ok (.iastore, 1) := by decide +kernel
theorem dX8_buys_93 : decode cX8_buys 93 = .ok (.aload_n 0, 1) := by decide +kernel
theorem dX8_buys_94 : decode cX8_buys 94 = .ok (.getfield 7, 3) := by decide +kernel
theorem dX8_buys_97 : decode cX8_buys 97 = .ok (.bipush 22, 2) := by decide +kernel
theorem dX8_buys_99 : decode cX8_buys 99 = .ok (.iload_n 2, 1) := by decide +kernel
theorem dX8_buys_100 : decode cX8_buys 100 = .ok (.iadd, 1) := by decide +kernel
theorem dX8_buys_101 : decode cX8_buys 101 = .ok (.iload_n 1, 1) := by decide +kernel
theorem dX8_buys_102 : decode cX8_buys 102 = .ok (.iconst 1, 1) := by decide +kernel
theorem dX8_buys_103 : decode cX8_buys 103 = .ok (.iadd, 1) := by decide +kernel
theorem dX8_buys_104 : decode cX8_buys 104 = .ok (.iastore, 1) := by decide +kernel
theorem dX8_buys_105 : decode cX8_buys 105 = .ok (.aload_n 0, 1) := by decide +kernel
theorem dX8_buys_106 : decode cX8_buys 106 = .ok (.getfield 7, 3) := by decide +kernel
theorem dX8_buys_109 : decode cX8_buys 109 = .ok (.iload_n 1, 1) := by decide +kernel
theorem dX8_buys_110 : decode cX8_buys 110 = .ok (.iaload, 1) := by decide +kernel
theorem dX8_buys_111 : decode cX8_buys 111 = .ok (.ireturn, 1) := by decide +kernel
set_option maxRecDepth 20000 in
theorem ggX8_buy_X8_buys : GoodIn wsX8_buy wsX8_buys := goodIn_r _ [5, 6, 7, 8, 9, 4, 10, 11, 12, 13, 14, 15, 16, 17, 18, 19, 20, 21, 22, 23, 24, 25, 26, 27, 28, 29, 30, 31, 32, 33, 34, 35, 36, 37, 38, 39, 40, 41, 42, 43, 44, 45, 46, 47, 48, 49, 50, 51, 52, 53, 54, 55, 56, 57, 58, 59, 60, 61, 62, 63, 64, 65, 66, 67] (by decide +kernel) (by decide +kernel)
set_option maxRecDepth 20000 in
theorem gX8_buy_X8_buys : GoodIn wsX8_buy (wsV RX8 191 RX8 yX8_buys wsX8_buys) := goodIn_app (goodIn_of _ (by decide +kernel)) ggX8_buy_X8_buys
theorem dX8_buy_0 : decode cX8_buy 0 = .ok (.aload_n 0, 1) := by decide +kernel
theorem dX8_buy_1 : decode cX8_buy 1 = .ok (.iload_n 1, 1) := by decide +kernel
theorem dX8_buy_2 : decode cX8_buy 2 = .ok (.iload_n 2, 1) := by decide +kernel
theorem dX8_buy_3 : decode cX8_buy 3 = .ok (.invokevirtual 191, 3) := by decide +kernel
theorem dX8_buy_6 : decode cX8_buy 6 = .ok (.ireturn, 1) := by decide +kernel
set_option maxRecDepth 20000 in
theorem ggX8_laysRow_X8_votesOf : GoodIn wsX8_laysRow wsX8_votesOf := goodIn_r _ [9, 3, 10, 11, 12, 13, 14, 15, 16, 17, 18, 19, 20, 21, 22, 23, 24, 25, 26, 27, 28, 29, 30, 31, 32, 33, 34, 35, 36, 37, 38, 39, 40, 41] (by decide +kernel) (by decide +kernel)
set_option maxRecDepth 20000 in
theorem gX8_laysRow_X8_votesOf : GoodIn wsX8_laysRow (wsV RX8 138 RX8 yX8_votesOf wsX8_votesOf) := goodIn_app (goodIn_of _ (by decide +kernel)) ggX8_laysRow_X8_votesOf
theorem dX8_laysRow_0 : decode cX8_laysRow 0 = .ok (.aload_n 0, 1) := by decide +kernel
theorem dX8_laysRow_1 : decode cX8_laysRow 1 = .ok (.iconst 0, 1) := by decide +kernel
theorem dX8_laysRow_2 : decode cX8_laysRow 2 = .ok (.putfield 194, 3) := by decide +kernel
theorem dX8_laysRow_5 : decode cX8_laysRow 5 = .ok (.iconst 0, 1) := by decide +kernel
theorem dX8_laysRow_6 : decode cX8_laysRow 6 = .ok (.istore_n 1, 1) := by decide +kernel
theorem dX8_laysRow_7 : decode cX8_laysRow 7 = .ok (.iload_n 1, 1) := by decide +kernel
theorem dX8_laysRow_8 : decode cX8_laysRow 8 = .ok (.bipush 20, 2) := by decide +kernel
theorem dX8_laysRow_10 : decode cX8_laysRow 10 = .ok (.if_icmp .ge 66, 3) := by decide +kernel
theorem dX8_laysRow_13 : decode cX8_laysRow 13 = .ok (.iconst 0, 1) := by decide +kernel
theorem dX8_laysRow_14 : decode cX8_laysRow 14 = .ok (.istore_n 2, 1) := by decide +kernel
theorem dX8_laysRow_15 : decode cX8_laysRow 15 = .ok (.iload_n 2, 1) := by decide +kernel
theorem dX8_laysRow_16 : decode cX8_laysRow 16 = .ok (.aload_n 0, 1) := by decide +kernel
theorem dX8_laysRow_17 : decode cX8_laysRow 17 = .ok (.getfield 132, 3) := by decide +kernel
theorem dX8_laysRow_20 : decode cX8_laysRow 20 = .ok (.if_icmp .ge 50, 3) := by decide +kernel
theorem dX8_laysRow_23 : decode cX8_laysRow 23 = .ok (.aload_n 0, 1) := by decide +kernel
theorem dX8_laysRow_24 : decode cX8_laysRow 24 = .ok (.iload_n 2, 1) := by decide +kernel
theorem dX8_laysRow_25 : decode cX8_laysRow 25 = .ok (.invokevirtual 138, 3) := by decide +kernel
theorem dX8_laysRow_28 : decode cX8_laysRow 28 = .ok (.iload_n 1, 1) := by decide +kernel
theorem dX8_laysRow_29 : decode cX8_laysRow 29 = .ok (.if_icmp .ne 35, 3) := by decide +kernel
theorem dX8_laysRow_32 : decode cX8_laysRow 32 = .ok (.aload_n 0, 1) := by decide +kernel
theorem dX8_laysRow_33 : decode cX8_laysRow 33 = .ok (.getfield 7, 3) := by decide +kernel
theorem dX8_laysRow_36 : decode cX8_laysRow 36 = .ok (.bipush 16, 2) := by decide +kernel
theorem dX8_laysRow_38 : decode cX8_laysRow 38 = .ok (.iload_n 2, 1) := by decide +kernel
theorem dX8_laysRow_39 : decode cX8_laysRow 39 = .ok (.iadd, 1) := by decide +kernel
theorem dX8_laysRow_40 : decode cX8_laysRow 40 = .ok (.iaload, 1) := by decide +kernel
theorem dX8_laysRow_41 : decode cX8_laysRow 41 = .ok (.ifCond .le 23, 3) := by decide +kernel
theorem dX8_laysRow_44 : decode cX8_laysRow 44 = .ok (.aload_n 0, 1) := by decide +kernel
theorem dX8_laysRow_45 : decode cX8_laysRow 45 = .ok (.getfield 25, 3) := by decide +kernel
theorem dX8_laysRow_48 : decode cX8_laysRow 48 = .ok (.aload_n 0, 1) := by decide +kernel
theorem dX8_laysRow_49 : decode cX8_laysRow 49 = .ok (.getfield 194, 3) := by decide +kernel
theorem dX8_laysRow_52 : decode cX8_laysRow 52 = .ok (.iload_n 2, 1) := by decide +kernel
theorem dX8_laysRow_53 : decode cX8_laysRow 53 = .ok (.iastore, 1) := by decide +kernel
theorem dX8_laysRow_54 : decode cX8_laysRow 54 = .ok (.aload_n 0, 1) := by decide +kernel
theorem dX8_laysRow_55 : decode cX8_laysRow 55 = .ok (.dup, 1) := by decide +kernel
theorem dX8_laysRow_56 : decode cX8_laysRow 56 = .ok (.getfield 194, 3) := by decide +kernel
theorem dX8_laysRow_59 : decode cX8_laysRow 59 = .ok (.iconst 1, 1) := by decide +kernel
theorem dX8_laysRow_60 : decode cX8_laysRow 60 = .ok (.iadd, 1) := by decide +kernel
theorem dX8_laysRow_61 : decode cX8_laysRow 61 = .ok (.putfield 194, 3) := by decide +kernel
theorem dX8_laysRow_64 : decode cX8_laysRow 64 = .ok (.iinc 2 1, 3) := by decide +kernel
theorem dX8_laysRow_67 : decode cX8_laysRow 67 = .ok (.goto (-52), 3) := by decide +kernel
theorem dX8_laysRow_70 : decode cX8_laysRow 70 = .ok (.iinc 1 1, 3) := by decide +kernel
theorem dX8_laysRow_73 : decode cX8_laysRow 73 = .ok (.goto (-66), 3) := by decide +kernel
theorem dX8_laysRow_76 : decode cX8_laysRow 76 = .ok (.return_, 1) := by decide +kernel
theorem dX8_firstOf_0 : decode cX8_firstOf 0 = .ok (.iconst 0, 1) := by decide +kernel
theorem dX8_firstOf_1 : decode cX8_firstOf 1 = .ok (.istore_n 2, 1) := by decide +kernel
theorem dX8_firstOf_2 : decode cX8_firstOf 2 = .ok (.iconst 0, 1) := by decide +kernel
theorem dX8_firstOf_3 : decode cX8_firstOf 3 = .ok (.istore_n 3, 1) := by decide +kernel
theorem dX8_firstOf_4 : decode cX8_firstOf 4 = .ok (.iload_n 3, 1) := by decide +kernel
theorem dX8_firstOf_5 : decode cX8_firstOf 5 = .ok (.iload_n 1, 1) := by decide +kernel
theorem dX8_firstOf_6 : decode cX8_firstOf 6 = .ok (.if_icmp .ge 20, 3) := by decide +kernel
theorem dX8_firstOf_9 : decode cX8_firstOf 9 = .ok (.iload_n 2, 1) := by decide +kernel
theorem dX8_firstOf_10 : decode cX8_firstOf 10 = .ok (.iconst 1, 1) := by decide +kernel
theorem dX8_firstOf_11 : decode cX8_firstOf 11 = .ok (.aload_n 0, 1) := by decide +kernel
theorem dX8_firstOf_12 : decode cX8_firstOf 12 = .ok (.getfield 25, 3) := by decide +kernel
theorem dX8_firstOf_15 : decode cX8_firstOf 15 = .ok (.iload_n 3, 1) := by decide +kernel
theorem dX8_firstOf_16 : decode cX8_firstOf 16 = .ok (.iaload, 1) := by decide +kernel
theorem dX8_firstOf_17 : decode cX8_firstOf 17 = .ok (.ishl, 1) := by decide +kernel
theorem dX8_firstOf_18 : decode cX8_firstOf 18 = .ok (.ior, 1) := by decide +kernel
theorem dX8_firstOf_19 : decode cX8_firstOf 19 = .ok (.istore_n 2, 1) := by decide +kernel
theorem dX8_firstOf_20 : decode cX8_firstOf 20 = .ok (.iinc 3 1, 3) := by decide +kernel
theorem dX8_firstOf_23 : decode cX8_firstOf 23 = .ok (.goto (-19), 3) := by decide +kernel
theorem dX8_firstOf_26 : decode cX8_firstOf 26 = .ok (.iload_n 2, 1) := by decide +kernel
theorem dX8_firstOf_27 : decode cX8_firstOf 27 = .ok (.ireturn, 1) := by decide +kernel
set_option maxRecDepth 20000 in
theorem ggX8_take_X8_in : GoodIn wsX8_take wsX8_in := goodIn_r _ [8] (by decide +kernel) (by decide +kernel)
set_option maxRecDepth 20000 in
theorem gX8_take_X8_in : GoodIn wsX8_take (va_wsS RX8 52 yX8_in wsX8_in) := goodIn_app (goodIn_of _ (by decide +kernel)) ggX8_take_X8_in
set_option maxRecDepth 20000 in
theorem ggX8_take_X8_laysRow : GoodIn wsX8_take wsX8_laysRow := goodIn_r _ [12, 2, 13, 3, 4, 14, 15, 16, 7, 17, 22, 23, 24, 25, 26, 27, 28, 29, 30, 31, 32, 33, 34, 35, 36, 37, 38, 39, 40, 41, 42, 43, 44, 45, 46, 47, 48, 49, 50, 51, 52, 53] (by decide +kernel) (by decide +kernel)
set_option maxRecDepth 20000 in
theorem gX8_take_X8_laysRow : GoodIn wsX8_take (wsV RX8 199 RX8 yX8_laysRow wsX8_laysRow) := goodIn_app (goodIn_of _ (by decide +kernel)) ggX8_take_X8_laysRow
set_option maxRecDepth 20000 in
theorem ggX8_take_X8_firstOf : GoodIn wsX8_take wsX8_firstOf := goodIn_r _ [21, 4, 22, 23, 24, 25, 26, 27, 28, 29, 30, 31, 32, 33, 34, 35, 36, 37, 38, 39, 40, 41, 42, 43, 44, 45, 46, 47, 48, 49, 50, 51, 52, 53] (by decide +kernel) (by decide +kernel)
set_option maxRecDepth 20000 in
theorem gX8_take_X8_firstOf : GoodIn wsX8_take (wsV RX8 202 RX8 yX8_firstOf wsX8_firstOf) := goodIn_app (goodIn_of _ (by decide +kernel)) ggX8_take_X8_firstOf
theorem dX8_take_0 : decode cX8_take 0 = .ok (.iload_n 1, 1) := by decide +kernel
theorem dX8_take_1 : decode cX8_take 1 = .ok (.i2l, 1) := by decide +kernel
theorem dX8_take_2 : decode cX8_take 2 = .ok (.lconst 0, 1) := by decide +kernel
theorem dX8_take_3 : decode cX8_take 3 = .ok (.ldc2_w 197, 3) := by decide +kernel
theorem dX8_take_6 : decode cX8_take 6 = .ok (.invokestatic 52, 3) := by decide +kernel
theorem dX8_take_9 : decode cX8_take 9 = .ok (.ifCond .ne 5, 3) := by decide +kernel
theorem dX8_take_12 : decode cX8_take 12 = .ok (.iconst (-1), 1) := by decide +kernel
theorem dX8_take_13 : decode cX8_take 13 = .ok (.ireturn, 1) := by decide +kernel
theorem dX8_take_14 : decode cX8_take 14 = .ok (.aload_n 0, 1) := by decide +kernel
theorem dX8_take_15 : decode cX8_take 15 = .ok (.invokevirtual 199, 3) := by decide +kernel
theorem dX8_take_18 : decode cX8_take 18 = .ok (.iload_n 1, 1) := by decide +kernel
theorem dX8_take_19 : decode cX8_take 19 = .ok (.aload_n 0, 1) := by decide +kernel
theorem dX8_take_20 : decode cX8_take 20 = .ok (.getfield 194, 3) := by decide +kernel
theorem dX8_take_23 : decode cX8_take 23 = .ok (.if_icmp .le 6, 3) := by decide +kernel
theorem dX8_take_26 : decode cX8_take 26 = .ok (.bipush (-4), 2) := by decide +kernel
theorem dX8_take_28 : decode cX8_take 28 = .ok (.ireturn, 1) := by decide +kernel
theorem dX8_take_29 : decode cX8_take 29 = .ok (.aload_n 0, 1) := by decide +kernel
theorem dX8_take_30 : decode cX8_take 30 = .ok (.iload_n 1, 1) := by decide +kernel
theorem dX8_take_31 : decode cX8_take 31 = .ok (.invokevirtual 202, 3) := by decide +kernel
theorem dX8_take_34 : decode cX8_take 34 = .ok (.istore_n 2, 1) := by decide +kernel
theorem dX8_take_35 : decode cX8_take 35 = .ok (.iconst 0, 1) := by decide +kernel
theorem dX8_take_36 : decode cX8_take 36 = .ok (.istore_n 3, 1) := by decide +kernel
theorem dX8_take_37 : decode cX8_take 37 = .ok (.iload_n 3, 1) := by decide +kernel
theorem dX8_take_38 : decode cX8_take 38 = .ok (.iload_n 1, 1) := by decide +kernel
theorem dX8_take_39 : decode cX8_take 39 = .ok (.if_icmp .ge 24, 3) := by decide +kernel
theorem dX8_take_42 : decode cX8_take 42 = .ok (.aload_n 0, 1) := by decide +kernel
theorem dX8_take_43 : decode cX8_take 43 = .ok (.getfield 7, 3) := by decide +kernel
theorem dX8_take_46 : decode cX8_take 46 = .ok (.bipush 16, 2) := by decide +kernel
theorem dX8_take_48 : decode cX8_take 48 = .ok (.aload_n 0, 1) := by decide +kernel
theorem dX8_take_49 : decode cX8_take 49 = .ok (.getfield 25, 3) := by decide +kernel
theorem dX8_take_52 : decode cX8_take 52 = .ok (.iload_n 3, 1) := by decide +kernel
theorem dX8_take_53 : decode cX8_take 53 = .ok (.iaload, 1) := by decide +kernel
theorem dX8_take_54 : decode cX8_take 54 = .ok (.iadd, 1) := by decide +kernel
theorem dX8_take_55 : decode cX8_take 55 = .ok (.iconst 0, 1) := by decide +kernel
theorem dX8_take_56 : decode cX8_take 56 = .ok (.iastore, 1) := by decide +kernel
theorem dX8_take_57 : decode cX8_take 57 = .ok (.iinc 3 1, 3) := by decide +kernel
theorem dX8_take_60 : decode cX8_take 60 = .ok (.goto (-23), 3) := by decide +kernel
theorem dX8_take_63 : decode cX8_take 63 = .ok (.iload_n 2, 1) := by decide +kernel
theorem dX8_take_64 : decode cX8_take 64 = .ok (.ireturn, 1) := by decide +kernel
set_option maxRecDepth 20000 in
theorem ggX8_isLords_X8_in : GoodIn wsX8_isLords wsX8_in := goodIn_r _ [5] (by decide +kernel) (by decide +kernel)
set_option maxRecDepth 20000 in
theorem gX8_isLords_X8_in : GoodIn wsX8_isLords (va_wsS RX8 52 yX8_in wsX8_in) := goodIn_app (goodIn_of _ (by decide +kernel)) ggX8_isLords_X8_in
theorem dX8_isLords_0 : decode cX8_isLords 0 = .ok (.iload_n 1, 1) := by decide +kernel
theorem dX8_isLords_1 : decode cX8_isLords 1 = .ok (.i2l, 1) := by decide +kernel
theorem dX8_isLords_2 : decode cX8_isLords 2 = .ok (.lconst 0, 1) := by decide +kernel
theorem dX8_isLords_3 : decode cX8_isLords 3 = .ok (.iconst 1, 1) := by decide +kernel
theorem dX8_isLords_4 : decode cX8_isLords 4 = .ok (.aload_n 0, 1) := by decide +kernel
theorem dX8_isLords_5 : decode cX8_isLords 5 = .ok (.getfield 129, 3) := by decide +kernel
theorem dX8_isLords_8 : decode cX8_isLords 8 = .ok (.ishl, 1) := by decide +kernel
theorem dX8_isLords_9 : decode cX8_isLords 9 = .ok (.iconst 1, 1) := by decide +kernel
theorem dX8_isLords_10 : decode cX8_isLords 10 = .ok (.isub, 1) := by decide +kernel
theorem dX8_isLords_11 : decode cX8_isLords 11 = .ok (.i2l, 1) := by decide +kernel
theorem dX8_isLords_12 : decode cX8_isLords 12 = .ok (.invokestatic 52, 3) := by decide +kernel
theorem dX8_isLords_15 : decode cX8_isLords 15 = .ok (.ireturn, 1) := by decide +kernel
set_option maxRecDepth 20000 in
theorem ggX8_carries_X8_boroughsOf : GoodIn wsX8_carries wsX8_boroughsOf := goodIn_r _ [5, 6, 7, 8, 9, 4, 10, 11, 20, 21, 22, 23, 24, 25, 26, 27, 28, 29, 30, 31, 32, 33, 34, 35, 36, 37, 38, 39, 40, 41, 42, 43, 44, 45, 46, 47, 48, 49, 50, 51] (by decide +kernel) (by decide +kernel)
set_option maxRecDepth 20000 in
theorem gX8_carries_X8_boroughsOf : GoodIn wsX8_carries (wsV RX8 147 RX8 yX8_boroughsOf wsX8_boroughsOf) := goodIn_app (goodIn_of _ (by decide +kernel)) ggX8_carries_X8_boroughsOf
set_option maxRecDepth 20000 in
theorem ggX8_carries_X8_seatsOf : GoodIn wsX8_carries wsX8_seatsOf := goodIn_r _ [15, 6, 11, 20, 21, 22, 23, 24, 25, 26, 27, 28, 29, 30, 31, 32, 33, 34, 35, 36, 37, 38, 39, 40, 41, 42, 43, 44, 45, 46, 47, 48, 49, 50, 51] (by decide +kernel) (by decide +kernel)
set_option maxRecDepth 20000 in
theorem gX8_carries_X8_seatsOf : GoodIn wsX8_carries (wsV RX8 150 RX8 yX8_seatsOf wsX8_seatsOf) := goodIn_app (goodIn_of _ (by decide +kernel)) ggX8_carries_X8_seatsOf
set_option maxRecDepth 20000 in
theorem ggX8_carries_X8_all : GoodIn wsX8_carries wsX8_all := goodIn_r _ [19, 6, 20, 21, 22, 23, 24, 25, 26, 27, 28, 29, 30, 31, 32, 33, 34, 35, 36, 37, 38, 39, 40, 41, 42, 43, 44, 45, 46, 47, 48, 49, 50, 51] (by decide +kernel) (by decide +kernel)
set_option maxRecDepth 20000 in
theorem gX8_carries_X8_all : GoodIn wsX8_carries (wsV RX8 144 RX8 yX8_all wsX8_all) := goodIn_app (goodIn_of _ (by decide +kernel)) ggX8_carries_X8_all
theorem dX8_carries_0 : decode cX8_carries 0 = .ok (.iconst 2, 1) := by decide +kernel
theorem dX8_carries_1 : decode cX8_carries 1 = .ok (.aload_n 0, 1) := by decide +kernel
theorem dX8_carries_2 : decode cX8_carries 2 = .ok (.aload_n 0, 1) := by decide +kernel
theorem dX8_carries_3 : decode cX8_carries 3 = .ok (.iload_n 1, 1) := by decide +kernel
theorem dX8_carries_4 : decode cX8_carries 4 = .ok (.invokevirtual 147, 3) := by decide +kernel
theorem dX8_carries_7 : decode cX8_carries 7 = .ok (.invokevirtual 150, 3) := by decide +kernel
theorem dX8_carries_10 : decode cX8_carries 10 = .ok (.imul, 1) := by decide +kernel
theorem dX8_carries_11 : decode cX8_carries 11 = .ok (.aload_n 0, 1) := by decide +kernel
theorem dX8_carries_12 : decode cX8_carries 12 = .ok (.aload_n 0, 1) := by decide +kernel
theorem dX8_carries_13 : decode cX8_carries 13 = .ok (.invokevirtual 144, 3) := by decide +kernel
theorem dX8_carries_16 : decode cX8_carries 16 = .ok (.invokevirtual 150, 3) := by decide +kernel
theorem dX8_carries_19 : decode cX8_carries 19 = .ok (.if_icmp .le 7, 3) := by decide +kernel
theorem dX8_carries_22 : decode cX8_carries 22 = .ok (.iconst 1, 1) := by decide +kernel
theorem dX8_carries_23 : decode cX8_carries 23 = .ok (.goto 4, 3) := by decide +kernel
theorem dX8_carries_26 : decode cX8_carries 26 = .ok (.iconst 0, 1) := by decide +kernel
theorem dX8_carries_27 : decode cX8_carries 27 = .ok (.ireturn, 1) := by decide +kernel
set_option maxRecDepth 20000 in
theorem ggX8_carry_X8_isLords : GoodIn wsX8_carry wsX8_isLords := goodIn_r _ [5, 6, 7, 8, 4, 9, 32, 33, 34, 35, 36, 37, 38, 39, 40, 41, 42, 43, 44, 45, 46, 47, 48, 49, 50, 51, 52, 53, 54, 55, 56, 57, 58, 59, 60, 61, 62, 63] (by decide +kernel) (by decide +kernel)
set_option maxRecDepth 20000 in
theorem gX8_carry_X8_isLords : GoodIn wsX8_carry (wsV RX8 205 RX8 yX8_isLords wsX8_isLords) := goodIn_app (goodIn_of _ (by decide +kernel)) ggX8_carry_X8_isLords
set_option maxRecDepth 20000 in
theorem ggX8_carry_X8_in : GoodIn wsX8_carry wsX8_in := goodIn_r _ [9] (by decide +kernel) (by decide +kernel)
set_option maxRecDepth 20000 in
theorem gX8_carry_X8_in : GoodIn wsX8_carry (va_wsS RX8 52 yX8_in wsX8_in) := goodIn_app (goodIn_of _ (by decide +kernel)) ggX8_carry_X8_in
set_option maxRecDepth 20000 in
theorem ggX8_carry_X8_boroughsOf : GoodIn wsX8_carry wsX8_boroughsOf := goodIn_r _ [13, 14, 15, 16, 17, 4, 18, 19, 32, 33, 34, 35, 36, 37, 38, 39, 40, 41, 42, 43, 44, 45, 46, 47, 48, 49, 50, 51, 52, 53, 54, 55, 56, 57, 58, 59, 60, 61, 62, 63] (by decide +kernel) (by decide +kernel)
set_option maxRecDepth 20000 in
theorem gX8_carry_X8_boroughsOf : GoodIn wsX8_carry (wsV RX8 147 RX8 yX8_boroughsOf wsX8_boroughsOf) := goodIn_app (goodIn_of _ (by decide +kernel)) ggX8_carry_X8_boroughsOf
set_option maxRecDepth 20000 in
theorem ggX8_carry_X8_seatsOf : GoodIn wsX8_carry wsX8_seatsOf := goodIn_r _ [23, 14, 19, 32, 33, 34, 35, 36, 37, 38, 39, 40, 41, 42, 43, 44, 45, 46, 47, 48, 49, 50, 51, 52, 53, 54, 55, 56, 57, 58, 59, 60, 61, 62, 63] (by decide +kernel) (by decide +kernel)
set_option maxRecDepth 20000 in
theorem gX8_carry_X8_seatsOf : GoodIn wsX8_carry (wsV RX8 150 RX8 yX8_seatsOf wsX8_seatsOf) := goodIn_app (goodIn_of _ (by decide +kernel)) ggX8_carry_X8_seatsOf
set_option maxRecDepth 20000 in
theorem ggX8_carry_X8_carries : GoodIn wsX8_carry wsX8_carries := goodIn_r _ [27, 10, 11, 12, 4, 13, 14, 15, 16, 17, 18, 19, 20, 21, 22, 23, 28, 29, 30, 31, 32, 33, 34, 35, 36, 37, 38, 39, 40, 41, 42, 43, 44, 45, 46, 47, 48, 49, 50, 51, 52, 53, 54, 55, 56, 57, 58, 59, 60, 61, 62, 63] (by decide +kernel) (by decide +kernel)
set_option maxRecDepth 20000 in
theorem gX8_carry_X8_carries : GoodIn wsX8_carry (wsV RX8 208 RX8 yX8_carries wsX8_carries) := goodIn_app (goodIn_of _ (by decide +kernel)) ggX8_carry_X8_carries
theorem dX8_carry_0 : decode cX8_carry 0 = .ok (.aload_n 0, 1) := by decide +kernel
theorem dX8_carry_1 : decode cX8_carry 1 = .ok (.iload_n 1, 1) := by decide +kernel
theorem dX8_carry_2 : decode cX8_carry 2 = .ok (.invokevirtual 205, 3) := by decide +kernel
theorem dX8_carry_5 : decode cX8_carry 5 = .ok (.ifCond .eq 13, 3) := by decide +kernel
theorem dX8_carry_8 : decode cX8_carry 8 = .ok (.iload_n 2, 1) := by decide +kernel
theorem dX8_carry_9 : decode cX8_carry 9 = .ok (.i2l, 1) := by decide +kernel
theorem dX8_carry_10 : decode cX8_carry 10 = .ok (.lconst 0, 1) := by decide +kernel
theorem dX8_carry_11 : decode cX8_carry 11 = .ok (.lconst 1, 1) := by decide +kernel
theorem dX8_carry_12 : decode cX8_carry 12 = .ok (.invokestatic 52, 3) := by decide +kernel
theorem dX8_carry_15 : decode cX8_carry 15 = .ok (.ifCond .ne 5, 3) := by decide +kernel
theorem dX8_carry_18 : decode cX8_carry 18 = .ok (.iconst (-1), 1) := by decide +kernel
theorem dX8_carry_19 : decode cX8_carry 19 = .ok (.ireturn, 1) := by decide +kernel
theorem dX8_carry_20 : decode cX8_carry 20 = .ok (.iload_n 2, 1) := by decide +kernel
theorem dX8_carry_21 : decode cX8_carry 21 = .ok (.ifCond .ne 15, 3) := by decide +kernel
theorem dX8_carry_24 : decode cX8_carry 24 = .ok (.aload_n 0, 1) := by decide +kernel
theorem dX8_carry_25 : decode cX8_carry 25 = .ok (.aload_n 0, 1) := by decide +kernel
theorem dX8_carry_26 : decode cX8_carry 26 = .ok (.iload_n 1, 1) := by decide +kernel
theorem dX8_carry_27 : decode cX8_carry 27 = .ok (.invokevirtual 147, 3) := by decide +kernel
theorem dX8_carry_30 : decode cX8_carry 30 = .ok (.invokevirtual 150, 3) := by decide +kernel
theorem dX8_carry_33 : decode cX8_carry 33 = .ok (.goto 16, 3) := by decide +kernel
theorem dX8_carry_36 : decode cX8_carry 36 = .ok (.aload_n 0, 1) := by decide +kernel
theorem dX8_carry_37 : decode cX8_carry 37 = .ok (.iload_n 1, 1) := by decide +kernel
theorem dX8_carry_38 : decode cX8_carry 38 = .ok (.invokevirtual 208, 3) := by decide +kernel
theorem dX8_carry_41 : decode cX8_carry 41 = .ok (.ifCond .eq 7, 3) := by decide +kernel
theorem dX8_carry_44 : decode cX8_carry 44 = .ok (.iconst 1, 1) := by decide +kernel
theorem dX8_carry_45 : decode cX8_carry 45 = .ok (.goto 4, 3) := by decide +kernel
theorem dX8_carry_48 : decode cX8_carry 48 = .ok (.iconst 0, 1) := by decide +kernel
theorem dX8_carry_49 : decode cX8_carry 49 = .ok (.ireturn, 1) := by decide +kernel
set_option maxRecDepth 20000 in
theorem ggX8_laysPlayers_X8_nobodys : GoodIn wsX8_laysPlayers wsX8_nobodys := goodIn_r _ [10, 11, 12, 13, 9, 14, 4, 15, 16, 17, 18, 19, 20, 21, 22, 5, 27, 28, 29, 30, 31, 32, 33, 34, 35, 36, 37, 38, 39, 40, 41, 42, 43, 44, 45, 46, 47, 48, 49, 50, 51, 52, 53, 54, 55, 56, 57, 58] (by decide +kernel) (by decide +kernel)
set_option maxRecDepth 20000 in
theorem gX8_laysPlayers_X8_nobodys : GoodIn wsX8_laysPlayers (wsV RX8 156 RX8 yX8_nobodys wsX8_nobodys) := goodIn_app (goodIn_of _ (by decide +kernel)) ggX8_laysPlayers_X8_nobodys
set_option maxRecDepth 20000 in
theorem ggX8_laysPlayers_X8_boroughsOf : GoodIn wsX8_laysPlayers wsX8_boroughsOf := goodIn_r _ [18, 4, 19, 20, 21, 9, 22, 5, 27, 28, 29, 30, 31, 32, 33, 34, 35, 36, 37, 38, 39, 40, 41, 42, 43, 44, 45, 46, 47, 48, 49, 50, 51, 52, 53, 54, 55, 56, 57, 58] (by decide +kernel) (by decide +kernel)
set_option maxRecDepth 20000 in
theorem gX8_laysPlayers_X8_boroughsOf : GoodIn wsX8_laysPlayers (wsV RX8 147 RX8 yX8_boroughsOf wsX8_boroughsOf) := goodIn_app (goodIn_of _ (by decide +kernel)) ggX8_laysPlayers_X8_boroughsOf
set_option maxRecDepth 20000 in
theorem ggX8_laysPlayers_X8_seatsOf : GoodIn wsX8_laysPlayers wsX8_seatsOf := goodIn_r _ [26, 4, 5, 27, 28, 29, 30, 31, 32, 33, 34, 35, 36, 37, 38, 39, 40, 41, 42, 43, 44, 45, 46, 47, 48, 49, 50, 51, 52, 53, 54, 55, 56, 57, 58] (by decide +kernel) (by decide +kernel)
set_option maxRecDepth 20000 in
theorem gX8_laysPlayers_X8_seatsOf : GoodIn wsX8_laysPlayers (wsV RX8 150 RX8 yX8_seatsOf wsX8_seatsOf) := goodIn_app (goodIn_of _ (by decide +kernel)) ggX8_laysPlayers_X8_seatsOf
theorem dX8_laysPlayers_0 : decode cX8_laysPlayers 0 = .ok (.bipush (-4), 2) := by decide +kernel
theorem dX8_laysPlayers_2 : decode cX8_laysPlayers 2 = .ok (.istore_n 2, 1) := by decide +kernel
theorem dX8_laysPlayers_3 : decode cX8_laysPlayers 3 = .ok (.aload_n 0, 1) := by decide +kernel
theorem dX8_laysPlayers_4 : decode cX8_laysPlayers 4 = .ok (.invokevirtual 156, 3) := by decide +kernel
theorem dX8_laysPlayers_7 : decode cX8_laysPlayers 7 = .ok (.istore_n 3, 1) := by decide +kernel
theorem dX8_laysPlayers_8 : decode cX8_laysPlayers 8 = .ok (.aload_n 0, 1) := by decide +kernel
theorem dX8_laysPlayers_9 : decode cX8_laysPlayers 9 = .ok (.aload_n 0, 1) := by decide +kernel
theorem dX8_laysPlayers_10 : decode cX8_laysPlayers 10 = .ok (.getfield 129, 3) := by decide +kernel
theorem dX8_laysPlayers_13 : decode cX8_laysPlayers 13 = .ok (.putfield 211, 3) := by decide +kernel
theorem dX8_laysPlayers_16 : decode cX8_laysPlayers 16 = .ok (.iconst 0, 1) := by decide +kernel
theorem dX8_laysPlayers_17 : decode cX8_laysPlayers 17 = .ok (.istore 4, 2) := by decide +kernel
theorem dX8_laysPlayers_19 : decode cX8_laysPlayers 19 = .ok (.iload 4, 2) := by decide +kernel
theorem dX8_laysPlayers_21 : decode cX8_laysPlayers 21 = .ok (.aload_n 0, 1) := by decide +kernel
theorem dX8_laysPlayers_22 : decode cX8_laysPlayers 22 = .ok (.getfield 129, 3) := by decide +kernel
theorem dX8_laysPlayers_25 : decode cX8_laysPlayers 25 = .ok (.if_icmp .ge 28, 3) := by decide +kernel
theorem dX8_laysPlayers_28 : decode cX8_laysPlayers 28 = .ok (.aload_n 0, 1) := by decide +kernel
theorem dX8_laysPlayers_29 : decode cX8_laysPlayers 29 = .ok (.getfield 28, 3) := by decide +kernel
theorem dX8_laysPlayers_32 : decode cX8_laysPlayers 32 = .ok (.iload 4, 2) := by decide +kernel
theorem dX8_laysPlayers_34 : decode cX8_laysPlayers 34 = .ok (.aload_n 0, 1) := by decide +kernel
theorem dX8_laysPlayers_35 : decode cX8_laysPlayers 35 = .ok (.aload_n 0, 1) := by decide +kernel
theorem dX8_laysPlayers_36 : decode cX8_laysPlayers 36 = .ok (.iconst 1, 1) := by decide +kernel
theorem dX8_laysPlayers_37 : decode cX8_laysPlayers 37 = .ok (.iload 4, 2) := by decide +kernel
theorem dX8_laysPlayers_39 : decode cX8_laysPlayers 39 = .ok (.ishl, 1) := by decide +kernel
theorem dX8_laysPlayers_40 : decode cX8_laysPlayers 40 = .ok (.invokevirtual 147, 3) := by decide +kernel
theorem dX8_laysPlayers_43 : decode cX8_laysPlayers 43 = .ok (.invokevirtual 150, 3) := by decide +kernel
theorem dX8_laysPlayers_46 : decode cX8_laysPlayers 46 = .ok (.iastore, 1) := by decide +kernel
theorem dX8_laysPlayers_47 : decode cX8_laysPlayers 47 = .ok (.iinc 4 1, 3) := by decide +kernel
theorem dX8_laysPlayers_50 : decode cX8_laysPlayers 50 = .ok (.goto (-31), 3) := by decide +kernel
theorem dX8_laysPlayers_53 : decode cX8_laysPlayers 53 = .ok (.iconst 0, 1) := by decide +kernel
theorem dX8_laysPlayers_54 : decode cX8_laysPlayers 54 = .ok (.istore 4, 2) := by decide +kernel
theorem dX8_laysPlayers_56 : decode cX8_laysPlayers 56 = .ok (.iload 4, 2) := by decide +kernel
theorem dX8_laysPlayers_58 : decode cX8_laysPlayers 58 = .ok (.aload_n 0, 1) := by decide +kernel
theorem dX8_laysPlayers_59 : decode cX8_laysPlayers 59 = .ok (.getfield 132, 3) := by decide +kernel
theorem dX8_laysPlayers_62 : decode cX8_laysPlayers 62 = .ok (.if_icmp .ge 63, 3) := by decide +kernel
theorem dX8_laysPlayers_65 : decode cX8_laysPlayers 65 = .ok (.iload_n 3, 1) := by decide +kernel
theorem dX8_laysPlayers_66 : decode cX8_laysPlayers 66 = .ok (.iload 4, 2) := by decide +kernel
theorem dX8_laysPlayers_68 : decode cX8_laysPlayers 68 = .ok (.ishr, 1) := by decide +kernel
theorem dX8_laysPlayers_69 : decode cX8_laysPlayers 69 = .ok (.iconst 1, 1) := by decide +kernel
theorem dX8_laysPlayers_70 : decode cX8_laysPlayers 70 = .ok (.iand, 1) := by decide +kernel
theorem dX8_laysPlayers_71 : decode cX8_laysPlayers 71 = .ok (.iconst 1, 1) := by decide +kernel
theorem dX8_laysPlayers_72 : decode cX8_laysPlayers 72 = .ok (.if_icmp .ne 47, 3) := by decide +kernel
theorem dX8_laysPlayers_75 : decode cX8_laysPlayers 75 = .ok (.iload 4, 2) := by decide +kernel
theorem dX8_laysPlayers_77 : decode cX8_laysPlayers 77 = .ok (.iload_n 1, 1) := by decide +kernel
theorem dX8_laysPlayers_78 : decode cX8_laysPlayers 78 = .ok (.if_icmp .ne 10, 3) := by decide +kernel
theorem dX8_laysPlayers_81 : decode cX8_laysPlayers 81 = .ok (.aload_n 0, 1) := by decide +kernel
theorem dX8_laysPlayers_82 : decode cX8_laysPlayers 82 = .ok (.getfield 211, 3) := by decide +kernel
theorem dX8_laysPlayers_85 : decode cX8_laysPlayers 85 = .ok (.goto 4, 3) := by decide +kernel
theorem dX8_laysPlayers_88 : decode cX8_laysPlayers 88 = .ok (.iload_n 2, 1) := by decide +kernel
theorem dX8_laysPlayers_89 : decode cX8_laysPlayers 89 = .ok (.istore_n 2, 1) := by decide +kernel
theorem dX8_laysPlayers_90 : decode cX8_laysPlayers 90 = .ok (.aload_n 0, 1) := by decide +kernel
theorem dX8_laysPlayers_91 : decode cX8_laysPlayers 91 = .ok (.getfield 28, 3) := by decide +kernel
theorem dX8_laysPlayers_94 : decode cX8_laysPlayers 94 = .ok (.aload_n 0, 1) := by decide +kernel
theorem dX8_laysPlayers_95 : decode cX8_laysPlayers 95 = .ok (.getfield 211, 3) := by decide +kernel
theorem dX8_laysPlayers_98 : decode cX8_laysPlayers 98 = .ok (.aload_n 0, 1) := by decide +kernel
theorem dX8_laysPlayers_99 : decode cX8_laysPlayers 99 = .ok (.getfield 7, 3) := by decide +kernel
theorem dX8_laysPlayers_102 : decode cX8_laysPlayers 102 = .ok (.bipush 16, 2) := by decide +kernel
theorem dX8_laysPlayers_104 : decode cX8_laysPlayers 104 = .ok (.iload 4, 2) := by decide +kernel
theorem dX8_laysPlayers_106 : decode cX8_laysPlayers 106 = .ok (.iadd, 1) := by decide +kernel
theorem dX8_laysPlayers_107 : decode cX8_laysPlayers 107 = .ok (.iaload, 1) := by decide +kernel
theorem dX8_laysPlayers_108 : decode cX8_laysPlayers 108 = .ok (.iastore, 1) := by decide +kernel
theorem dX8_laysPlayers_109 : decode cX8_laysPlayers 109 = .ok (.aload_n 0, 1) := by decide +kernel
theorem dX8_laysPlayers_110 : decode cX8_laysPlayers 110 = .ok (.dup, 1) := by decide +kernel
theorem dX8_laysPlayers_111 : decode cX8_laysPlayers 111 = .ok (.getfield 211, 3) := by decide +kernel
theorem dX8_laysPlayers_114 : decode cX8_laysPlayers 114 = .ok (.iconst 1, 1) := by decide +kernel
theorem dX8_laysPlayers_115 : decode cX8_laysPlayers 115 = .ok (.iadd, 1) := by decide +kernel
theorem dX8_laysPlayers_116 : decode cX8_laysPlayers 116 = .ok (.putfield 211, 3) := by decide +kernel
theorem dX8_laysPlayers_119 : decode cX8_laysPlayers 119 = .ok (.iinc 4 1, 3) := by decide +kernel
theorem dX8_laysPlayers_122 : decode cX8_laysPlayers 122 = .ok (.goto (-66), 3) := by decide +kernel
theorem dX8_laysPlayers_125 : decode cX8_laysPlayers 125 = .ok (.iload_n 2, 1) := by decide +kernel
theorem dX8_laysPlayers_126 : decode cX8_laysPlayers 126 = .ok (.ireturn, 1) := by decide +kernel
theorem dX8_mightOf_0 : decode cX8_mightOf 0 = .ok (.iconst 0, 1) := by decide +kernel
theorem dX8_mightOf_1 : decode cX8_mightOf 1 = .ok (.istore_n 2, 1) := by decide +kernel
theorem dX8_mightOf_2 : decode cX8_mightOf 2 = .ok (.iconst 0, 1) := by decide +kernel
theorem dX8_mightOf_3 : decode cX8_mightOf 3 = .ok (.istore_n 3, 1) := by decide +kernel
theorem dX8_mightOf_4 : decode cX8_mightOf 4 = .ok (.iload_n 3, 1) := by decide +kernel
theorem dX8_mightOf_5 : decode cX8_mightOf 5 = .ok (.aload_n 0, 1) := by decide +kernel
theorem dX8_mightOf_6 : decode cX8_mightOf 6 = .ok (.getfield 211, 3) := by decide +kernel
theorem dX8_mightOf_9 : decode cX8_mightOf 9 = .ok (.if_icmp .ge 31, 3) := by decide +kernel
theorem dX8_mightOf_12 : decode cX8_mightOf 12 = .ok (.iload_n 2, 1) := by decide +kernel
theorem dX8_mightOf_13 : decode cX8_mightOf 13 = .ok (.iload_n 1, 1) := by decide +kernel
theorem dX8_mightOf_14 : decode cX8_mightOf 14 = .ok (.iload_n 3, 1) := by decide +kernel
theorem dX8_mightOf_15 : decode cX8_mightOf 15 = .ok (.ishr, 1) := by decide +kernel
theorem dX8_mightOf_16 : decode cX8_mightOf 16 = .ok (.iconst 1, 1) := by decide +kernel
theorem dX8_mightOf_17 : decode cX8_mightOf 17 = .ok (.iand, 1) := by decide +kernel
theorem dX8_mightOf_18 : decode cX8_mightOf 18 = .ok (.iconst 1, 1) := by decide +kernel
theorem dX8_mightOf_19 : decode cX8_mightOf 19 = .ok (.if_icmp .ne 12, 3) := by decide +kernel
theorem dX8_mightOf_22 : decode cX8_mightOf 22 = .ok (.aload_n 0, 1) := by decide +kernel
theorem dX8_mightOf_23 : decode cX8_mightOf 23 = .ok (.getfield 28, 3) := by decide +kernel
theorem dX8_mightOf_26 : decode cX8_mightOf 26 = .ok (.iload_n 3, 1) := by decide +kernel
theorem dX8_mightOf_27 : decode cX8_mightOf 27 = .ok (.iaload, 1) := by decide +kernel
theorem dX8_mightOf_28 : decode cX8_mightOf 28 = .ok (.goto 4, 3) := by decide +kernel
theorem dX8_mightOf_31 : decode cX8_mightOf 31 = .ok (.iconst 0, 1) := by decide +kernel
theorem dX8_mightOf_32 : decode cX8_mightOf 32 = .ok (.iadd, 1) := by decide +kernel
theorem dX8_mightOf_33 : decode cX8_mightOf 33 = .ok (.istore_n 2, 1) := by decide +kernel
theorem dX8_mightOf_34 : decode cX8_mightOf 34 = .ok (.iinc 3 1, 3) := by decide +kernel
theorem dX8_mightOf_37 : decode cX8_mightOf 37 = .ok (.goto (-33), 3) := by decide +kernel
theorem dX8_mightOf_40 : decode cX8_mightOf 40 = .ok (.iload_n 2, 1) := by decide +kernel
theorem dX8_mightOf_41 : decode cX8_mightOf 41 = .ok (.ireturn, 1) := by decide +kernel
set_option maxRecDepth 20000 in
theorem ggX8_swingsBy_X8_mightOf : GoodIn wsX8_swingsBy wsX8_mightOf := goodIn_r _ [7, 1, 2, 8, 9, 10, 11, 12, 13, 14, 15, 16, 17, 18, 19, 20, 21, 22, 23, 24, 25, 26, 27, 28, 29, 30, 31, 32, 33, 34, 35, 36, 37, 38, 39] (by decide +kernel) (by decide +kernel)
set_option maxRecDepth 20000 in
theorem gX8_swingsBy_X8_mightOf : GoodIn wsX8_swingsBy (wsV RX8 214 RX8 yX8_mightOf wsX8_mightOf) := goodIn_app (goodIn_of _ (by decide +kernel)) ggX8_swingsBy_X8_mightOf
theorem dX8_swingsBy_0 : decode cX8_swingsBy 0 = .ok (.aload_n 0, 1) := by decide +kernel
theorem dX8_swingsBy_1 : decode cX8_swingsBy 1 = .ok (.iconst 1, 1) := by decide +kernel
theorem dX8_swingsBy_2 : decode cX8_swingsBy 2 = .ok (.aload_n 0, 1) := by decide +kernel
theorem dX8_swingsBy_3 : decode cX8_swingsBy 3 = .ok (.getfield 211, 3) := by decide +kernel
theorem dX8_swingsBy_6 : decode cX8_swingsBy 6 = .ok (.ishl, 1) := by decide +kernel
theorem dX8_swingsBy_7 : decode cX8_swingsBy 7 = .ok (.iconst 1, 1) := by decide +kernel
theorem dX8_swingsBy_8 : decode cX8_swingsBy 8 = .ok (.isub, 1) := by decide +kernel
theorem dX8_swingsBy_9 : decode cX8_swingsBy 9 = .ok (.invokevirtual 214, 3) := by decide +kernel
theorem dX8_swingsBy_12 : decode cX8_swingsBy 12 = .ok (.istore_n 3, 1) := by decide +kernel
theorem dX8_swingsBy_13 : decode cX8_swingsBy 13 = .ok (.aload_n 0, 1) := by decide +kernel
theorem dX8_swingsBy_14 : decode cX8_swingsBy 14 = .ok (.iload_n 2, 1) := by decide +kernel
theorem dX8_swingsBy_15 : decode cX8_swingsBy 15 = .ok (.invokevirtual 214, 3) := by decide +kernel
theorem dX8_swingsBy_18 : decode cX8_swingsBy 18 = .ok (.istore 4, 2) := by decide +kernel
theorem dX8_swingsBy_20 : decode cX8_swingsBy 20 = .ok (.iload_n 2, 1) := by decide +kernel
theorem dX8_swingsBy_21 : decode cX8_swingsBy 21 = .ok (.iload_n 1, 1) := by decide +kernel
theorem dX8_swingsBy_22 : decode cX8_swingsBy 22 = .ok (.ishr, 1) := by decide +kernel
theorem dX8_swingsBy_23 : decode cX8_swingsBy 23 = .ok (.iconst 1, 1) := by decide +kernel
theorem dX8_swingsBy_24 : decode cX8_swingsBy 24 = .ok (.iand, 1) := by decide +kernel
theorem dX8_swingsBy_25 : decode cX8_swingsBy 25 = .ok (.ifCond .ne 30, 3) := by decide +kernel
theorem dX8_swingsBy_28 : decode cX8_swingsBy 28 = .ok (.iconst 2, 1) := by decide +kernel
theorem dX8_swingsBy_29 : decode cX8_swingsBy 29 = .ok (.iload 4, 2) := by decide +kernel
theorem dX8_swingsBy_31 : decode cX8_swingsBy 31 = .ok (.imul, 1) := by decide +kernel
theorem dX8_swingsBy_32 : decode cX8_swingsBy 32 = .ok (.iload_n 3, 1) := by decide +kernel
theorem dX8_swingsBy_33 : decode cX8_swingsBy 33 = .ok (.if_icmp .gt 22, 3) := by decide +kernel
theorem dX8_swingsBy_36 : decode cX8_swingsBy 36 = .ok (.iconst 2, 1) := by decide +kernel
theorem dX8_swingsBy_37 : decode cX8_swingsBy 37 = .ok (.iload 4, 2) := by decide +kernel
theorem dX8_swingsBy_39 : decode cX8_swingsBy 39 = .ok (.aload_n 0, 1) := by decide +kernel
theorem dX8_swingsBy_40 : decode cX8_swingsBy 40 = .ok (.getfield 28, 3) := by decide +kernel
theorem dX8_swingsBy_43 : decode cX8_swingsBy 43 = .ok (.iload_n 1, 1) := by decide +kernel
theorem dX8_swingsBy_44 : decode cX8_swingsBy 44 = .ok (.iaload, 1) := by decide +kernel
theorem dX8_swingsBy_45 : decode cX8_swingsBy 45 = .ok (.iadd, 1) := by decide +kernel
theorem dX8_swingsBy_46 : decode cX8_swingsBy 46 = .ok (.imul, 1) := by decide +kernel
theorem dX8_swingsBy_47 : decode cX8_swingsBy 47 = .ok (.iload_n 3, 1) := by decide +kernel
theorem dX8_swingsBy_48 : decode cX8_swingsBy 48 = .ok (.if_icmp .le 7, 3) := by decide +kernel
theorem dX8_swingsBy_51 : decode cX8_swingsBy 51 = .ok (.iconst 1, 1) := by decide +kernel
theorem dX8_swingsBy_52 : decode cX8_swingsBy 52 = .ok (.goto 4, 3) := by decide +kernel
theorem dX8_swingsBy_55 : decode cX8_swingsBy 55 = .ok (.iconst 0, 1) := by decide +kernel
theorem dX8_swingsBy_56 : decode cX8_swingsBy 56 = .ok (.ireturn, 1) := by decide +kernel
set_option maxRecDepth 20000 in
theorem ggX8_swings_X8_isLord : GoodIn wsX8_swings wsX8_isLord := goodIn_r _ [6, 7, 8, 9, 5, 10, 46, 47, 48, 49, 50, 51, 52, 53, 54, 55, 56, 57, 58, 59, 60, 61, 62, 63, 64, 65, 66, 67, 68, 69, 70, 71, 72, 73, 74, 75, 76, 77] (by decide +kernel) (by decide +kernel)
set_option maxRecDepth 20000 in
theorem gX8_swings_X8_isLord : GoodIn wsX8_swings (wsV RX8 162 RX8 yX8_isLord wsX8_isLord) := goodIn_app (goodIn_of _ (by decide +kernel)) ggX8_swings_X8_isLord
set_option maxRecDepth 20000 in
theorem ggX8_swings_X8_laysPlayers : GoodIn wsX8_swings wsX8_laysPlayers := goodIn_r _ [14, 7, 1, 15, 16, 17, 18, 19, 20, 5, 21, 22, 23, 24, 25, 26, 27, 28, 29, 30, 31, 32, 33, 34, 35, 36, 37, 46, 47, 48, 49, 50, 51, 52, 53, 54, 55, 56, 57, 58, 59, 60, 61, 62, 63, 64, 65, 66, 67, 68, 69, 70, 71, 72, 73, 74, 75, 76, 77] (by decide +kernel) (by decide +kernel)
set_option maxRecDepth 20000 in
theorem gX8_swings_X8_laysPlayers : GoodIn wsX8_swings (wsV RX8 217 RX8 yX8_laysPlayers wsX8_laysPlayers) := goodIn_app (goodIn_of _ (by decide +kernel)) ggX8_swings_X8_laysPlayers
set_option maxRecDepth 20000 in
theorem ggX8_swings_X8_swingsBy : GoodIn wsX8_swings wsX8_swingsBy := goodIn_r _ [41, 1, 15, 42, 43, 44, 5, 45, 46, 47, 48, 49, 50, 51, 52, 53, 54, 55, 56, 57, 58, 59, 60, 61, 62, 63, 64, 65, 66, 67, 68, 69, 70, 71, 72, 73, 74, 75, 76, 77] (by decide +kernel) (by decide +kernel)
set_option maxRecDepth 20000 in
theorem gX8_swings_X8_swingsBy : GoodIn wsX8_swings (wsV RX8 220 RX8 yX8_swingsBy wsX8_swingsBy) := goodIn_app (goodIn_of _ (by decide +kernel)) ggX8_swings_X8_swingsBy
theorem dX8_swings_0 : decode cX8_swings 0 = .ok (.aload_n 0, 1) := by decide +kernel
theorem dX8_swings_1 : decode cX8_swings 1 = .ok (.iload_n 1, 1) := by decide +kernel
theorem dX8_swings_2 : decode cX8_swings 2 = .ok (.invokevirtual 162, 3) := by decide +kernel
theorem dX8_swings_5 : decode cX8_swings 5 = .ok (.ifCond .ne 5, 3) := by decide +kernel
theorem dX8_swings_8 : decode cX8_swings 8 = .ok (.iconst (-1), 1) := by decide +kernel
theorem dX8_swings_9 : decode cX8_swings 9 = .ok (.ireturn, 1) := by decide +kernel
theorem dX8_swings_10 : decode cX8_swings 10 = .ok (.aload_n 0, 1) := by decide +kernel
theorem dX8_swings_11 : decode cX8_swings 11 = .ok (.bipush (-4), 2) := by decide +kernel
theorem dX8_swings_13 : decode cX8_swings 13 = .ok (.invokevirtual 217, 3) := by decide +kernel
theorem dX8_swings_16 : decode cX8_swings 16 = .ok (.pop, 1) := by decide +kernel
theorem dX8_swings_17 : decode cX8_swings 17 = .ok (.iconst 0, 1) := by decide +kernel
theorem dX8_swings_18 : decode cX8_swings 18 = .ok (.istore_n 2, 1) := by decide +kernel
theorem dX8_swings_19 : decode cX8_swings 19 = .ok (.iconst 0, 1) := by decide +kernel
theorem dX8_swings_20 : decode cX8_swings 20 = .ok (.istore_n 3, 1) := by decide +kernel
theorem dX8_swings_21 : decode cX8_swings 21 = .ok (.iload_n 3, 1) := by decide +kernel
theorem dX8_swings_22 : decode cX8_swings 22 = .ok (.iconst 1, 1) := by decide +kernel
theorem dX8_swings_23 : decode cX8_swings 23 = .ok (.aload_n 0, 1) := by decide +kernel
theorem dX8_swings_24 : decode cX8_swings 24 = .ok (.getfield 211, 3) := by decide +kernel
theorem dX8_swings_27 : decode cX8_swings 27 = .ok (.ishl, 1) := by decide +kernel
theorem dX8_swings_28 : decode cX8_swings 28 = .ok (.if_icmp .ge 26, 3) := by decide +kernel
theorem dX8_swings_31 : decode cX8_swings 31 = .ok (.iload_n 2, 1) := by decide +kernel
theorem dX8_swings_32 : decode cX8_swings 32 = .ok (.aload_n 0, 1) := by decide +kernel
theorem dX8_swings_33 : decode cX8_swings 33 = .ok (.iload_n 1, 1) := by decide +kernel
theorem dX8_swings_34 : decode cX8_swings 34 = .ok (.iload_n 3, 1) := by decide +kernel
theorem dX8_swings_35 : decode cX8_swings 35 = .ok (.invokevirtual 220, 3) := by decide +kernel
theorem dX8_swings_38 : decode cX8_swings 38 = .ok (.ifCond .eq 7, 3) := by decide +kernel
theorem dX8_swings_41 : decode cX8_swings 41 = .ok (.iconst 1, 1) := by decide +kernel
theorem dX8_swings_42 : decode cX8_swings 42 = .ok (.goto 4, 3) := by decide +kernel
theorem dX8_swings_45 : decode cX8_swings 45 = .ok (.iconst 0, 1) := by decide +kernel
theorem dX8_swings_46 : decode cX8_swings 46 = .ok (.iadd, 1) := by decide +kernel
theorem dX8_swings_47 : decode cX8_swings 47 = .ok (.istore_n 2, 1) := by decide +kernel
theorem dX8_swings_48 : decode cX8_swings 48 = .ok (.iinc 3 1, 3) := by decide +kernel
theorem dX8_swings_51 : decode cX8_swings 51 = .ok (.goto (-30), 3) := by decide +kernel
theorem dX8_swings_54 : decode cX8_swings 54 = .ok (.iload_n 2, 1) := by decide +kernel
theorem dX8_swings_55 : decode cX8_swings 55 = .ok (.ireturn, 1) := by decide +kernel
theorem dX8_bitsOf_0 : decode cX8_bitsOf 0 = .ok (.iconst 0, 1) := by decide +kernel
theorem dX8_bitsOf_1 : decode cX8_bitsOf 1 = .ok (.istore_n 1, 1) := by decide +kernel
theorem dX8_bitsOf_2 : decode cX8_bitsOf 2 = .ok (.iconst 0, 1) := by decide +kernel
theorem dX8_bitsOf_3 : decode cX8_bitsOf 3 = .ok (.istore_n 2, 1) := by decide +kernel
theorem dX8_bitsOf_4 : decode cX8_bitsOf 4 = .ok (.iload_n 2, 1) := by decide +kernel
theorem dX8_bitsOf_5 : decode cX8_bitsOf 5 = .ok (.bipush 10, 2) := by decide +kernel
theorem dX8_bitsOf_7 : decode cX8_bitsOf 7 = .ok (.if_icmp .ge 17, 3) := by decide +kernel
theorem dX8_bitsOf_10 : decode cX8_bitsOf 10 = .ok (.iload_n 1, 1) := by decide +kernel
theorem dX8_bitsOf_11 : decode cX8_bitsOf 11 = .ok (.iload_n 0, 1) := by decide +kernel
theorem dX8_bitsOf_12 : decode cX8_bitsOf 12 = .ok (.iload_n 2, 1) := by decide +kernel
theorem dX8_bitsOf_13 : decode cX8_bitsOf 13 = .ok (.ishr, 1) := by decide +kernel
theorem dX8_bitsOf_14 : decode cX8_bitsOf 14 = .ok (.iconst 1, 1) := by decide +kernel
theorem dX8_bitsOf_15 : decode cX8_bitsOf 15 = .ok (.iand, 1) := by decide +kernel
theorem dX8_bitsOf_16 : decode cX8_bitsOf 16 = .ok (.iadd, 1) := by decide +kernel
theorem dX8_bitsOf_17 : decode cX8_bitsOf 17 = .ok (.istore_n 1, 1) := by decide +kernel
theorem dX8_bitsOf_18 : decode cX8_bitsOf 18 = .ok (.iinc 2 1, 3) := by decide +kernel
theorem dX8_bitsOf_21 : decode cX8_bitsOf 21 = .ok (.goto (-17), 3) := by decide +kernel
theorem dX8_bitsOf_24 : decode cX8_bitsOf 24 = .ok (.iload_n 1, 1) := by decide +kernel
theorem dX8_bitsOf_25 : decode cX8_bitsOf 25 = .ok (.ireturn, 1) := by decide +kernel
theorem dX8_ordersOf_0 : decode cX8_ordersOf 0 = .ok (.lconst 1, 1) := by decide +kernel
theorem dX8_ordersOf_1 : decode cX8_ordersOf 1 = .ok (.lstore_n 1, 1) := by decide +kernel
theorem dX8_ordersOf_2 : decode cX8_ordersOf 2 = .ok (.iconst 2, 1) := by decide +kernel
theorem dX8_ordersOf_3 : decode cX8_ordersOf 3 = .ok (.istore_n 3, 1) := by decide +kernel
theorem dX8_ordersOf_4 : decode cX8_ordersOf 4 = .ok (.iload_n 3, 1) := by decide +kernel
theorem dX8_ordersOf_5 : decode cX8_ordersOf 5 = .ok (.iload_n 0, 1) := by decide +kernel
theorem dX8_ordersOf_6 : decode cX8_ordersOf 6 = .ok (.if_icmp .gt 14, 3) := by decide +kernel
theorem dX8_ordersOf_9 : decode cX8_ordersOf 9 = .ok (.lload_n 1, 1) := by decide +kernel
theorem dX8_ordersOf_10 : decode cX8_ordersOf 10 = .ok (.iload_n 3, 1) := by decide +kernel
theorem dX8_ordersOf_11 : decode cX8_ordersOf 11 = .ok (.i2l, 1) := by decide +kernel
theorem dX8_ordersOf_12 : decode cX8_ordersOf 12 = .ok (.lmul, 1) := by decide +kernel
theorem dX8_ordersOf_13 : decode cX8_ordersOf 13 = .ok (.lstore_n 1, 1) := by decide +kernel
theorem dX8_ordersOf_14 : decode cX8_ordersOf 14 = .ok (.iinc 3 1, 3) := by decide +kernel
theorem dX8_ordersOf_17 : decode cX8_ordersOf 17 = .ok (.goto (-13), 3) := by decide +kernel
theorem dX8_ordersOf_20 : decode cX8_ordersOf 20 = .ok (.lload_n 1, 1) := by decide +kernel
theorem dX8_ordersOf_21 : decode cX8_ordersOf 21 = .ok (.lreturn, 1) := by decide +kernel
theorem dX8_lowest_0 : decode cX8_lowest 0 = .ok (.lload_n 0, 1) := by decide +kernel
theorem dX8_lowest_1 : decode cX8_lowest 1 = .ok (.lstore 5, 2) := by decide +kernel
theorem dX8_lowest_3 : decode cX8_lowest 3 = .ok (.lload_n 2, 1) := by decide +kernel
theorem dX8_lowest_4 : decode cX8_lowest 4 = .ok (.lstore 7, 2) := by decide +kernel
theorem dX8_lowest_6 : decode cX8_lowest 6 = .ok (.lload 7, 2) := by decide +kernel
theorem dX8_lowest_8 : decode cX8_lowest 8 = .ok (.lconst 0, 1) := by decide +kernel
theorem dX8_lowest_9 : decode cX8_lowest 9 = .ok (.lcmp, 1) := by decide +kernel
theorem dX8_lowest_10 : decode cX8_lowest 10 = .ok (.ifCond .eq 21, 3) := by decide +kernel
theorem dX8_lowest_13 : decode cX8_lowest 13 = .ok (.lload 5, 2) := by decide +kernel
theorem dX8_lowest_15 : decode cX8_lowest 15 = .ok (.lload 7, 2) := by decide +kernel
theorem dX8_lowest_17 : decode cX8_lowest 17 = .ok (.lrem, 1) := by decide +kernel
theorem dX8_lowest_18 : decode cX8_lowest 18 = .ok (.lstore 9, 2) := by decide +kernel
theorem dX8_lowest_20 : decode cX8_lowest 20 = .ok (.lload 7, 2) := by decide +kernel
theorem dX8_lowest_22 : decode cX8_lowest 22 = .ok (.lstore 5, 2) := by decide +kernel
theorem dX8_lowest_24 : decode cX8_lowest 24 = .ok (.lload 9, 2) := by decide +kernel
theorem dX8_lowest_26 : decode cX8_lowest 26 = .ok (.lstore 7, 2) := by decide +kernel
theorem dX8_lowest_28 : decode cX8_lowest 28 = .ok (.goto (-22), 3) := by decide +kernel
theorem dX8_lowest_31 : decode cX8_lowest 31 = .ok (.iload 4, 2) := by decide +kernel
theorem dX8_lowest_33 : decode cX8_lowest 33 = .ok (.ifCond .ne 7, 3) := by decide +kernel
theorem dX8_lowest_36 : decode cX8_lowest 36 = .ok (.lload_n 0, 1) := by decide +kernel
theorem dX8_lowest_37 : decode cX8_lowest 37 = .ok (.goto 4, 3) := by decide +kernel
theorem dX8_lowest_40 : decode cX8_lowest 40 = .ok (.lload_n 2, 1) := by decide +kernel
theorem dX8_lowest_41 : decode cX8_lowest 41 = .ok (.lload 5, 2) := by decide +kernel
theorem dX8_lowest_43 : decode cX8_lowest 43 = .ok (.ldiv, 1) := by decide +kernel
theorem dX8_lowest_44 : decode cX8_lowest 44 = .ok (.lreturn, 1) := by decide +kernel
set_option maxRecDepth 20000 in
theorem ggX8_ordersBy_X8_bitsOf : GoodIn wsX8_ordersBy wsX8_bitsOf := goodIn_r _ [5] (by decide +kernel) (by decide +kernel)
set_option maxRecDepth 20000 in
theorem gX8_ordersBy_X8_bitsOf : GoodIn wsX8_ordersBy (va_wsS RX8 223 yX8_bitsOf wsX8_bitsOf) := goodIn_app (goodIn_of _ (by decide +kernel)) ggX8_ordersBy_X8_bitsOf
set_option maxRecDepth 20000 in
theorem ggX8_ordersBy_X8_swingsBy : GoodIn wsX8_ordersBy wsX8_swingsBy := goodIn_r _ [9, 1, 10, 11, 12, 13, 4, 14, 18, 19, 20, 21, 22, 23, 24, 25, 26, 27, 28, 29, 30, 31, 32, 33, 34, 35, 36, 37, 38, 39, 40, 41, 42, 43, 44, 45, 46, 47, 48, 49] (by decide +kernel) (by decide +kernel)
set_option maxRecDepth 20000 in
theorem gX8_ordersBy_X8_swingsBy : GoodIn wsX8_ordersBy (wsV RX8 220 RX8 yX8_swingsBy wsX8_swingsBy) := goodIn_app (goodIn_of _ (by decide +kernel)) ggX8_ordersBy_X8_swingsBy
set_option maxRecDepth 20000 in
theorem ggX8_ordersBy_X8_ordersOf : GoodIn wsX8_ordersBy wsX8_ordersOf := goodIn_r _ [17] (by decide +kernel) (by decide +kernel)
set_option maxRecDepth 20000 in
theorem gX8_ordersBy_X8_ordersOf : GoodIn wsX8_ordersBy (va_wsS RX8 226 yX8_ordersOf wsX8_ordersOf) := goodIn_app (goodIn_of _ (by decide +kernel)) ggX8_ordersBy_X8_ordersOf
theorem dX8_ordersBy_0 : decode cX8_ordersBy 0 = .ok (.lconst 0, 1) := by decide +kernel
theorem dX8_ordersBy_1 : decode cX8_ordersBy 1 = .ok (.lstore_n 2, 1) := by decide +kernel
theorem dX8_ordersBy_2 : decode cX8_ordersBy 2 = .ok (.iconst 0, 1) := by decide +kernel
theorem dX8_ordersBy_3 : decode cX8_ordersBy 3 = .ok (.istore 4, 2) := by decide +kernel
theorem dX8_ordersBy_5 : decode cX8_ordersBy 5 = .ok (.iload 4, 2) := by decide +kernel
theorem dX8_ordersBy_7 : decode cX8_ordersBy 7 = .ok (.iconst 1, 1) := by decide +kernel
theorem dX8_ordersBy_8 : decode cX8_ordersBy 8 = .ok (.aload_n 0, 1) := by decide +kernel
theorem dX8_ordersBy_9 : decode cX8_ordersBy 9 = .ok (.getfield 211, 3) := by decide +kernel
theorem dX8_ordersBy_12 : decode cX8_ordersBy 12 = .ok (.ishl, 1) := by decide +kernel
theorem dX8_ordersBy_13 : decode cX8_ordersBy 13 = .ok (.if_icmp .ge 51, 3) := by decide +kernel
theorem dX8_ordersBy_16 : decode cX8_ordersBy 16 = .ok (.iload 4, 2) := by decide +kernel
theorem dX8_ordersBy_18 : decode cX8_ordersBy 18 = .ok (.invokestatic 223, 3) := by decide +kernel
theorem dX8_ordersBy_21 : decode cX8_ordersBy 21 = .ok (.istore 5, 2) := by decide +kernel
theorem dX8_ordersBy_23 : decode cX8_ordersBy 23 = .ok (.lload_n 2, 1) := by decide +kernel
theorem dX8_ordersBy_24 : decode cX8_ordersBy 24 = .ok (.aload_n 0, 1) := by decide +kernel
theorem dX8_ordersBy_25 : decode cX8_ordersBy 25 = .ok (.iload_n 1, 1) := by decide +kernel
theorem dX8_ordersBy_26 : decode cX8_ordersBy 26 = .ok (.iload 4, 2) := by decide +kernel
theorem dX8_ordersBy_28 : decode cX8_ordersBy 28 = .ok (.invokevirtual 220, 3) := by decide +kernel
theorem dX8_ordersBy_31 : decode cX8_ordersBy 31 = .ok (.ifCond .eq 24, 3) := by decide +kernel
theorem dX8_ordersBy_34 : decode cX8_ordersBy 34 = .ok (.iload 5, 2) := by decide +kernel
theorem dX8_ordersBy_36 : decode cX8_ordersBy 36 = .ok (.invokestatic 226, 3) := by decide +kernel
theorem dX8_ordersBy_39 : decode cX8_ordersBy 39 = .ok (.aload_n 0, 1) := by decide +kernel
theorem dX8_ordersBy_40 : decode cX8_ordersBy 40 = .ok (.getfield 211, 3) := by decide +kernel
theorem dX8_ordersBy_43 : decode cX8_ordersBy 43 = .ok (.iconst 1, 1) := by decide +kernel
theorem dX8_ordersBy_44 : decode cX8_ordersBy 44 = .ok (.isub, 1) := by decide +kernel
theorem dX8_ordersBy_45 : decode cX8_ordersBy 45 = .ok (.iload 5, 2) := by decide +kernel
theorem dX8_ordersBy_47 : decode cX8_ordersBy 47 = .ok (.isub, 1) := by decide +kernel
theorem dX8_ordersBy_48 : decode cX8_ordersBy 48 = .ok (.invokestatic 226, 3) := by decide +kernel
theorem dX8_ordersBy_51 : decode cX8_ordersBy 51 = .ok (.lmul, 1) := by decide +kernel
theorem dX8_ordersBy_52 : decode cX8_ordersBy 52 = .ok (.goto 4, 3) := by decide +kernel
theorem dX8_ordersBy_55 : decode cX8_ordersBy 55 = .ok (.lconst 0, 1) := by decide +kernel
theorem dX8_ordersBy_56 : decode cX8_ordersBy 56 = .ok (.ladd, 1) := by decide +kernel
theorem dX8_ordersBy_57 : decode cX8_ordersBy 57 = .ok (.lstore_n 2, 1) := by decide +kernel
theorem dX8_ordersBy_58 : decode cX8_ordersBy 58 = .ok (.iinc 4 1, 3) := by decide +kernel
theorem dX8_ordersBy_61 : decode cX8_ordersBy 61 = .ok (.goto (-56), 3) := by decide +kernel
theorem dX8_ordersBy_64 : decode cX8_ordersBy 64 = .ok (.lload_n 2, 1) := by decide +kernel
theorem dX8_ordersBy_65 : decode cX8_ordersBy 65 = .ok (.lreturn, 1) := by decide +kernel
set_option maxRecDepth 20000 in
theorem ggX8_share_X8_isLord : GoodIn wsX8_share wsX8_isLord := goodIn_r _ [7, 8, 9, 10, 6, 11, 60, 61, 62, 63, 64, 65, 66, 67, 68, 69, 70, 71, 72, 73, 74, 75, 76, 77, 78, 79, 80, 81, 82, 83, 84, 85, 86, 87, 88, 89, 90, 91] (by decide +kernel) (by decide +kernel)
set_option maxRecDepth 20000 in
theorem gX8_share_X8_isLord : GoodIn wsX8_share (wsV RX8 162 RX8 yX8_isLord wsX8_isLord) := goodIn_app (goodIn_of _ (by decide +kernel)) ggX8_share_X8_isLord
set_option maxRecDepth 20000 in
theorem ggX8_share_X8_in : GoodIn wsX8_share wsX8_in := goodIn_r _ [11] (by decide +kernel) (by decide +kernel)
set_option maxRecDepth 20000 in
theorem gX8_share_X8_in : GoodIn wsX8_share (va_wsS RX8 52 yX8_in wsX8_in) := goodIn_app (goodIn_of _ (by decide +kernel)) ggX8_share_X8_in
set_option maxRecDepth 20000 in
theorem ggX8_share_X8_laysPlayers : GoodIn wsX8_share wsX8_laysPlayers := goodIn_r _ [15, 8, 2, 16, 17, 18, 19, 20, 21, 6, 22, 23, 24, 25, 26, 27, 28, 29, 30, 31, 32, 33, 34, 35, 36, 37, 38, 60, 61, 62, 63, 64, 65, 66, 67, 68, 69, 70, 71, 72, 73, 74, 75, 76, 77, 78, 79, 80, 81, 82, 83, 84, 85, 86, 87, 88, 89, 90, 91] (by decide +kernel) (by decide +kernel)
set_option maxRecDepth 20000 in
theorem gX8_share_X8_laysPlayers : GoodIn wsX8_share (wsV RX8 217 RX8 yX8_laysPlayers wsX8_laysPlayers) := goodIn_app (goodIn_of _ (by decide +kernel)) ggX8_share_X8_laysPlayers
set_option maxRecDepth 20000 in
theorem ggX8_share_X8_ordersBy : GoodIn wsX8_share wsX8_ordersBy := goodIn_r _ [42, 2, 43, 44, 6, 45, 46, 47, 48, 49, 16, 50, 51, 52, 53, 54, 55, 56, 60, 61, 62, 63, 64, 65, 66, 67, 68, 69, 70, 71, 72, 73, 74, 75, 76, 77, 78, 79, 80, 81, 82, 83, 84, 85, 86, 87, 88, 89, 90, 91] (by decide +kernel) (by decide +kernel)
set_option maxRecDepth 20000 in
theorem gX8_share_X8_ordersBy : GoodIn wsX8_share (wsV RX8 232 RX8 yX8_ordersBy wsX8_ordersBy) := goodIn_app (goodIn_of _ (by decide +kernel)) ggX8_share_X8_ordersBy
set_option maxRecDepth 20000 in
theorem ggX8_share_X8_ordersOf : GoodIn wsX8_share wsX8_ordersOf := goodIn_r _ [56] (by decide +kernel) (by decide +kernel)
set_option maxRecDepth 20000 in
theorem gX8_share_X8_ordersOf : GoodIn wsX8_share (va_wsS RX8 226 yX8_ordersOf wsX8_ordersOf) := goodIn_app (goodIn_of _ (by decide +kernel)) ggX8_share_X8_ordersOf
set_option maxRecDepth 20000 in
theorem ggX8_share_X8_lowest : GoodIn wsX8_share wsX8_lowest := goodIn_r _ [59] (by decide +kernel) (by decide +kernel)
set_option maxRecDepth 20000 in
theorem gX8_share_X8_lowest : GoodIn wsX8_share (va_wsS RX8 235 yX8_lowest wsX8_lowest) := goodIn_app (goodIn_of _ (by decide +kernel)) ggX8_share_X8_lowest
theorem dX8_share_0 : decode cX8_share 0 = .ok (.aload_n 0, 1) := by decide +kernel
theorem dX8_share_1 : decode cX8_share 1 = .ok (.iload_n 1, 1) := by decide +kernel
theorem dX8_share_2 : decode cX8_share 2 = .ok (.invokevirtual 162, 3) := by decide +kernel
theorem dX8_share_5 : decode cX8_share 5 = .ok (.ifCond .eq 13, 3) := by decide +kernel
theorem dX8_share_8 : decode cX8_share 8 = .ok (.iload_n 2, 1) := by decide +kernel
theorem dX8_share_9 : decode cX8_share 9 = .ok (.i2l, 1) := by decide +kernel
theorem dX8_share_10 : decode cX8_share 10 = .ok (.lconst 0, 1) := by decide +kernel
theorem dX8_share_11 : decode cX8_share 11 = .ok (.lconst 1, 1) := by decide +kernel
theorem dX8_share_12 : decode cX8_share 12 = .ok (.invokestatic 52, 3) := by decide +kernel
theorem dX8_share_15 : decode cX8_share 15 = .ok (.ifCond .ne 7, 3) := by decide +kernel
theorem dX8_share_18 : decode cX8_share 18 = .ok (.ldc2_w 230, 3) := by decide +kernel
theorem dX8_share_21 : decode cX8_share 21 = .ok (.lreturn, 1) := by decide +kernel
theorem dX8_share_22 : decode cX8_share 22 = .ok (.aload_n 0, 1) := by decide +kernel
theorem dX8_share_23 : decode cX8_share 23 = .ok (.bipush (-4), 2) := by decide +kernel
theorem dX8_share_25 : decode cX8_share 25 = .ok (.invokevirtual 217, 3) := by decide +kernel
theorem dX8_share_28 : decode cX8_share 28 = .ok (.pop, 1) := by decide +kernel
theorem dX8_share_29 : decode cX8_share 29 = .ok (.aload_n 0, 1) := by decide +kernel
theorem dX8_share_30 : decode cX8_share 30 = .ok (.iload_n 1, 1) := by decide +kernel
theorem dX8_share_31 : decode cX8_share 31 = .ok (.invokevirtual 232, 3) := by decide +kernel
theorem dX8_share_34 : decode cX8_share 34 = .ok (.aload_n 0, 1) := by decide +kernel
theorem dX8_share_35 : decode cX8_share 35 = .ok (.getfield 211, 3) := by decide +kernel
theorem dX8_share_38 : decode cX8_share 38 = .ok (.invokestatic 226, 3) := by decide +kernel
theorem dX8_share_41 : decode cX8_share 41 = .ok (.iload_n 2, 1) := by decide +kernel
theorem dX8_share_42 : decode cX8_share 42 = .ok (.invokestatic 235, 3) := by decide +kernel
theorem dX8_share_45 : decode cX8_share 45 = .ok (.lreturn, 1) := by decide +kernel
set_option maxRecDepth 20000 in
theorem ggX8_alone_X8_isBorough : GoodIn wsX8_alone wsX8_isBorough := goodIn_r _ [8, 9, 10, 11, 7, 12, 61, 62, 63, 64, 65, 66, 67, 68, 69, 70, 71, 72, 73, 74, 75, 76, 77, 78, 79, 80, 81, 82, 83, 84, 85, 86, 87, 88, 89, 90, 91, 92] (by decide +kernel) (by decide +kernel)
set_option maxRecDepth 20000 in
theorem gX8_alone_X8_isBorough : GoodIn wsX8_alone (wsV RX8 168 RX8 yX8_isBorough wsX8_isBorough) := goodIn_app (goodIn_of _ (by decide +kernel)) ggX8_alone_X8_isBorough
set_option maxRecDepth 20000 in
theorem ggX8_alone_X8_in : GoodIn wsX8_alone wsX8_in := goodIn_r _ [12] (by decide +kernel) (by decide +kernel)
set_option maxRecDepth 20000 in
theorem gX8_alone_X8_in : GoodIn wsX8_alone (va_wsS RX8 52 yX8_in wsX8_in) := goodIn_app (goodIn_of _ (by decide +kernel)) ggX8_alone_X8_in
set_option maxRecDepth 20000 in
theorem ggX8_alone_X8_ownerOf : GoodIn wsX8_alone wsX8_ownerOf := goodIn_r _ [16, 17, 61, 62, 63, 64, 65, 66, 67, 68, 69, 70, 71, 72, 73, 74, 75, 76, 77, 78, 79, 80, 81, 82, 83, 84, 85, 86, 87, 88, 89, 90, 91, 92] (by decide +kernel) (by decide +kernel)
set_option maxRecDepth 20000 in
theorem gX8_alone_X8_ownerOf : GoodIn wsX8_alone (wsV RX8 141 RX8 yX8_ownerOf wsX8_ownerOf) := goodIn_app (goodIn_of _ (by decide +kernel)) ggX8_alone_X8_ownerOf
set_option maxRecDepth 20000 in
theorem ggX8_alone_X8_laysPlayers : GoodIn wsX8_alone wsX8_laysPlayers := goodIn_r _ [21, 22, 3, 23, 9, 17, 24, 25, 26, 7, 27, 28, 29, 30, 31, 32, 33, 34, 35, 13, 14, 15, 16, 36, 37, 38, 39, 61, 62, 63, 64, 65, 66, 67, 68, 69, 70, 71, 72, 73, 74, 75, 76, 77, 78, 79, 80, 81, 82, 83, 84, 85, 86, 87, 88, 89, 90, 91, 92] (by decide +kernel) (by decide +kernel)
set_option maxRecDepth 20000 in
theorem gX8_alone_X8_laysPlayers : GoodIn wsX8_alone (wsV RX8 217 RX8 yX8_laysPlayers wsX8_laysPlayers) := goodIn_app (goodIn_of _ (by decide +kernel)) ggX8_alone_X8_laysPlayers
set_option maxRecDepth 20000 in
theorem ggX8_alone_X8_ordersBy : GoodIn wsX8_alone wsX8_ordersBy := goodIn_r _ [43, 3, 44, 45, 7, 46, 47, 48, 49, 50, 23, 51, 52, 53, 54, 55, 56, 57, 61, 62, 63, 64, 65, 66, 67, 68, 69, 70, 71, 72, 73, 74, 75, 76, 77, 78, 79, 80, 81, 82, 83, 84, 85, 86, 87, 88, 89, 90, 91, 92] (by decide +kernel) (by decide +kernel)
set_option maxRecDepth 20000 in
theorem gX8_alone_X8_ordersBy : GoodIn wsX8_alone (wsV RX8 232 RX8 yX8_ordersBy wsX8_ordersBy) := goodIn_app (goodIn_of _ (by decide +kernel)) ggX8_alone_X8_ordersBy
set_option maxRecDepth 20000 in
theorem ggX8_alone_X8_ordersOf : GoodIn wsX8_alone wsX8_ordersOf := goodIn_r _ [57] (by decide +kernel) (by decide +kernel)
set_option maxRecDepth 20000 in
theorem gX8_alone_X8_ordersOf : GoodIn wsX8_alone (va_wsS RX8 226 yX8_ordersOf wsX8_ordersOf) := goodIn_app (goodIn_of _ (by decide +kernel)) ggX8_alone_X8_ordersOf
set_option maxRecDepth 20000 in
theorem ggX8_alone_X8_lowest : GoodIn wsX8_alone wsX8_lowest := goodIn_r _ [60] (by decide +kernel) (by decide +kernel)
set_option maxRecDepth 20000 in
theorem gX8_alone_X8_lowest : GoodIn wsX8_alone (va_wsS RX8 235 yX8_lowest wsX8_lowest) := goodIn_app (goodIn_of _ (by decide +kernel)) ggX8_alone_X8_lowest
theorem dX8_alone_0 : decode cX8_alone 0 = .ok (.aload_n 0, 1) := by decide +kernel
theorem dX8_alone_1 : decode cX8_alone 1 = .ok (.iload_n 1, 1) := by decide +kernel
theorem dX8_alone_2 : decode cX8_alone 2 = .ok (.invokevirtual 168, 3) := by decide +kernel
theorem dX8_alone_5 : decode cX8_alone 5 = .ok (.ifCond .eq 13, 3) := by decide +kernel
theorem dX8_alone_8 : decode cX8_alone 8 = .ok (.iload_n 2, 1) := by decide +kernel
theorem dX8_alone_9 : decode cX8_alone 9 = .ok (.i2l, 1) := by decide +kernel
theorem dX8_alone_10 : decode cX8_alone 10 = .ok (.lconst 0, 1) := by decide +kernel
theorem dX8_alone_11 : decode cX8_alone 11 = .ok (.lconst 1, 1) := by decide +kernel
theorem dX8_alone_12 : decode cX8_alone 12 = .ok (.invokestatic 52, 3) := by decide +kernel
theorem dX8_alone_15 : decode cX8_alone 15 = .ok (.ifCond .ne 7, 3) := by decide +kernel
theorem dX8_alone_18 : decode cX8_alone 18 = .ok (.ldc2_w 230, 3) := by decide +kernel
theorem dX8_alone_21 : decode cX8_alone 21 = .ok (.lreturn, 1) := by decide +kernel
theorem dX8_alone_22 : decode cX8_alone 22 = .ok (.aload_n 0, 1) := by decide +kernel
theorem dX8_alone_23 : decode cX8_alone 23 = .ok (.iload_n 1, 1) := by decide +kernel
theorem dX8_alone_24 : decode cX8_alone 24 = .ok (.invokevirtual 141, 3) := by decide +kernel
theorem dX8_alone_27 : decode cX8_alone 27 = .ok (.ifCond .lt 7, 3) := by decide +kernel
theorem dX8_alone_30 : decode cX8_alone 30 = .ok (.ldc2_w 239, 3) := by decide +kernel
theorem dX8_alone_33 : decode cX8_alone 33 = .ok (.lreturn, 1) := by decide +kernel
theorem dX8_alone_34 : decode cX8_alone 34 = .ok (.aload_n 0, 1) := by decide +kernel
theorem dX8_alone_35 : decode cX8_alone 35 = .ok (.iload_n 1, 1) := by decide +kernel
theorem dX8_alone_36 : decode cX8_alone 36 = .ok (.invokevirtual 217, 3) := by decide +kernel
theorem dX8_alone_39 : decode cX8_alone 39 = .ok (.istore_n 3, 1) := by decide +kernel
theorem dX8_alone_40 : decode cX8_alone 40 = .ok (.aload_n 0, 1) := by decide +kernel
theorem dX8_alone_41 : decode cX8_alone 41 = .ok (.iload_n 3, 1) := by decide +kernel
theorem dX8_alone_42 : decode cX8_alone 42 = .ok (.invokevirtual 232, 3) := by decide +kernel
theorem dX8_alone_45 : decode cX8_alone 45 = .ok (.aload_n 0, 1) := by decide +kernel
theorem dX8_alone_46 : decode cX8_alone 46 = .ok (.getfield 211, 3) := by decide +kernel
theorem dX8_alone_49 : decode cX8_alone 49 = .ok (.invokestatic 226, 3) := by decide +kernel
theorem dX8_alone_52 : decode cX8_alone 52 = .ok (.iload_n 2, 1) := by decide +kernel
theorem dX8_alone_53 : decode cX8_alone 53 = .ok (.invokestatic 235, 3) := by decide +kernel
theorem dX8_alone_56 : decode cX8_alone 56 = .ok (.lreturn, 1) := by decide +kernel
set_option maxRecDepth 20000 in
theorem ggX8_costsOf_X8_costOf : GoodIn wsX8_costsOf wsX8_costOf := goodIn_r _ [6, 7, 8, 9, 10, 5, 11, 12, 13, 14, 15, 16, 17, 18, 19, 20, 21, 22, 23, 24, 25, 26, 27, 28, 29, 30, 31, 32, 33, 34, 35, 36, 37, 38, 39, 40, 41, 42, 43] (by decide +kernel) (by decide +kernel)
set_option maxRecDepth 20000 in
theorem gX8_costsOf_X8_costOf : GoodIn wsX8_costsOf (wsV RX8 174 RX8 yX8_costOf wsX8_costOf) := goodIn_app (goodIn_of _ (by decide +kernel)) ggX8_costsOf_X8_costOf
theorem dX8_costsOf_0 : decode cX8_costsOf 0 = .ok (.iconst 0, 1) := by decide +kernel
theorem dX8_costsOf_1 : decode cX8_costsOf 1 = .ok (.istore_n 2, 1) := by decide +kernel
theorem dX8_costsOf_2 : decode cX8_costsOf 2 = .ok (.iconst 0, 1) := by decide +kernel
theorem dX8_costsOf_3 : decode cX8_costsOf 3 = .ok (.istore_n 3, 1) := by decide +kernel
theorem dX8_costsOf_4 : decode cX8_costsOf 4 = .ok (.iload_n 3, 1) := by decide +kernel
theorem dX8_costsOf_5 : decode cX8_costsOf 5 = .ok (.aload_n 0, 1) := by decide +kernel
theorem dX8_costsOf_6 : decode cX8_costsOf 6 = .ok (.getfield 132, 3) := by decide +kernel
theorem dX8_costsOf_9 : decode cX8_costsOf 9 = .ok (.if_icmp .ge 30, 3) := by decide +kernel
theorem dX8_costsOf_12 : decode cX8_costsOf 12 = .ok (.iload_n 2, 1) := by decide +kernel
theorem dX8_costsOf_13 : decode cX8_costsOf 13 = .ok (.iload_n 1, 1) := by decide +kernel
theorem dX8_costsOf_14 : decode cX8_costsOf 14 = .ok (.iload_n 3, 1) := by decide +kernel
theorem dX8_costsOf_15 : decode cX8_costsOf 15 = .ok (.ishr, 1) := by decide +kernel
theorem dX8_costsOf_16 : decode cX8_costsOf 16 = .ok (.iconst 1, 1) := by decide +kernel
theorem dX8_costsOf_17 : decode cX8_costsOf 17 = .ok (.iand, 1) := by decide +kernel
theorem dX8_costsOf_18 : decode cX8_costsOf 18 = .ok (.iconst 1, 1) := by decide +kernel
theorem dX8_costsOf_19 : decode cX8_costsOf 19 = .ok (.if_icmp .ne 11, 3) := by decide +kernel
theorem dX8_costsOf_22 : decode cX8_costsOf 22 = .ok (.aload_n 0, 1) := by decide +kernel
theorem dX8_costsOf_23 : decode cX8_costsOf 23 = .ok (.iload_n 3, 1) := by decide +kernel
theorem dX8_costsOf_24 : decode cX8_costsOf 24 = .ok (.invokevirtual 174, 3) := by decide +kernel
theorem dX8_costsOf_27 : decode cX8_costsOf 27 = .ok (.goto 4, 3) := by decide +kernel
theorem dX8_costsOf_30 : decode cX8_costsOf 30 = .ok (.iconst 0, 1) := by decide +kernel
theorem dX8_costsOf_31 : decode cX8_costsOf 31 = .ok (.iadd, 1) := by decide +kernel
theorem dX8_costsOf_32 : decode cX8_costsOf 32 = .ok (.istore_n 2, 1) := by decide +kernel
theorem dX8_costsOf_33 : decode cX8_costsOf 33 = .ok (.iinc 3 1, 3) := by decide +kernel
theorem dX8_costsOf_36 : decode cX8_costsOf 36 = .ok (.goto (-32), 3) := by decide +kernel
theorem dX8_costsOf_39 : decode cX8_costsOf 39 = .ok (.iload_n 2, 1) := by decide +kernel
theorem dX8_costsOf_40 : decode cX8_costsOf 40 = .ok (.ireturn, 1) := by decide +kernel
set_option maxRecDepth 20000 in
theorem ggX8_cheapest_X8_all : GoodIn wsX8_cheapest wsX8_all := goodIn_r _ [5, 6, 24, 25, 26, 27, 28, 29, 30, 31, 32, 33, 34, 35, 36, 37, 38, 39, 40, 41, 42, 43, 44, 45, 46, 47, 48, 49, 50, 51, 52, 53, 54, 55] (by decide +kernel) (by decide +kernel)
set_option maxRecDepth 20000 in
theorem gX8_cheapest_X8_all : GoodIn wsX8_cheapest (wsV RX8 144 RX8 yX8_all wsX8_all) := goodIn_app (goodIn_of _ (by decide +kernel)) ggX8_cheapest_X8_all
set_option maxRecDepth 20000 in
theorem ggX8_cheapest_X8_seatsOf : GoodIn wsX8_cheapest wsX8_seatsOf := goodIn_r _ [10, 6, 11, 24, 25, 26, 27, 28, 29, 30, 31, 32, 33, 34, 35, 36, 37, 38, 39, 40, 41, 42, 43, 44, 45, 46, 47, 48, 49, 50, 51, 52, 53, 54, 55] (by decide +kernel) (by decide +kernel)
set_option maxRecDepth 20000 in
theorem gX8_cheapest_X8_seatsOf : GoodIn wsX8_cheapest (wsV RX8 150 RX8 yX8_seatsOf wsX8_seatsOf) := goodIn_app (goodIn_of _ (by decide +kernel)) ggX8_cheapest_X8_seatsOf
set_option maxRecDepth 20000 in
theorem ggX8_cheapest_X8_costsOf : GoodIn wsX8_cheapest wsX8_costsOf := goodIn_r _ [15, 6, 16, 17, 18, 4, 19, 11, 20, 21, 22, 23, 24, 25, 26, 27, 28, 29, 30, 31, 32, 33, 34, 35, 36, 37, 38, 39, 40, 41, 42, 43, 44, 45, 46, 47, 48, 49, 50, 51, 52, 53, 54, 55] (by decide +kernel) (by decide +kernel)
set_option maxRecDepth 20000 in
theorem gX8_cheapest_X8_costsOf : GoodIn wsX8_cheapest (wsV RX8 241 RX8 yX8_costsOf wsX8_costsOf) := goodIn_app (goodIn_of _ (by decide +kernel)) ggX8_cheapest_X8_costsOf
theorem dX8_cheapest_0 : decode cX8_cheapest 0 = .ok (.bipush (-4), 2) := by decide +kernel
theorem dX8_cheapest_2 : decode cX8_cheapest 2 = .ok (.istore 4, 2) := by decide +kernel
theorem dX8_cheapest_4 : decode cX8_cheapest 4 = .ok (.bipush (-4), 2) := by decide +kernel
theorem dX8_cheapest_6 : decode cX8_cheapest 6 = .ok (.istore 5, 2) := by decide +kernel
theorem dX8_cheapest_8 : decode cX8_cheapest 8 = .ok (.iconst 0, 1) := by decide +kernel
theorem dX8_cheapest_9 : decode cX8_cheapest 9 = .ok (.istore 6, 2) := by decide +kernel
theorem dX8_cheapest_11 : decode cX8_cheapest 11 = .ok (.iload 6, 2) := by decide +kernel
theorem dX8_cheapest_13 : decode cX8_cheapest 13 = .ok (.aload_n 0, 1) := by decide +kernel
theorem dX8_cheapest_14 : decode cX8_cheapest 14 = .ok (.invokevirtual 144, 3) := by decide +kernel
theorem dX8_cheapest_17 : decode cX8_cheapest 17 = .ok (.if_icmp .gt 108, 3) := by decide +kernel
theorem dX8_cheapest_20 : decode cX8_cheapest 20 = .ok (.iload 6, 2) := by decide +kernel
theorem dX8_cheapest_22 : decode cX8_cheapest 22 = .ok (.iload_n 2, 1) := by decide +kernel
theorem dX8_cheapest_23 : decode cX8_cheapest 23 = .ok (.iconst (-1), 1) := by decide +kernel
theorem dX8_cheapest_24 : decode cX8_cheapest 24 = .ok (.ixor, 1) := by decide +kernel
theorem dX8_cheapest_25 : decode cX8_cheapest 25 = .ok (.iand, 1) := by decide +kernel
theorem dX8_cheapest_26 : decode cX8_cheapest 26 = .ok (.ifCond .ne 28, 3) := by decide +kernel
theorem dX8_cheapest_29 : decode cX8_cheapest 29 = .ok (.iconst 2, 1) := by decide +kernel
theorem dX8_cheapest_30 : decode cX8_cheapest 30 = .ok (.aload_n 0, 1) := by decide +kernel
theorem dX8_cheapest_31 : decode cX8_cheapest 31 = .ok (.iload_n 1, 1) := by decide +kernel
theorem dX8_cheapest_32 : decode cX8_cheapest 32 = .ok (.iload 6, 2) := by decide +kernel
theorem dX8_cheapest_34 : decode cX8_cheapest 34 = .ok (.ior, 1) := by decide +kernel
theorem dX8_cheapest_35 : decode cX8_cheapest 35 = .ok (.invokevirtual 150, 3) := by decide +kernel
theorem dX8_cheapest_38 : decode cX8_cheapest 38 = .ok (.imul, 1) := by decide +kernel
theorem dX8_cheapest_39 : decode cX8_cheapest 39 = .ok (.aload_n 0, 1) := by decide +kernel
theorem dX8_cheapest_40 : decode cX8_cheapest 40 = .ok (.aload_n 0, 1) := by decide +kernel
theorem dX8_cheapest_41 : decode cX8_cheapest 41 = .ok (.invokevirtual 144, 3) := by decide +kernel
theorem dX8_cheapest_44 : decode cX8_cheapest 44 = .ok (.invokevirtual 150, 3) := by decide +kernel
theorem dX8_cheapest_47 : decode cX8_cheapest 47 = .ok (.if_icmp .le 7, 3) := by decide +kernel
theorem dX8_cheapest_50 : decode cX8_cheapest 50 = .ok (.iconst 1, 1) := by decide +kernel
theorem dX8_cheapest_51 : decode cX8_cheapest 51 = .ok (.goto 4, 3) := by decide +kernel
theorem dX8_cheapest_54 : decode cX8_cheapest 54 = .ok (.iconst 0, 1) := by decide +kernel
theorem dX8_cheapest_55 : decode cX8_cheapest 55 = .ok (.istore 7, 2) := by decide +kernel
theorem dX8_cheapest_57 : decode cX8_cheapest 57 = .ok (.iload 7, 2) := by decide +kernel
theorem dX8_cheapest_59 : decode cX8_cheapest 59 = .ok (.ifCond .eq 25, 3) := by decide +kernel
theorem dX8_cheapest_62 : decode cX8_cheapest 62 = .ok (.iload 5, 2) := by decide +kernel
theorem dX8_cheapest_64 : decode cX8_cheapest 64 = .ok (.bipush (-4), 2) := by decide +kernel
theorem dX8_cheapest_66 : decode cX8_cheapest 66 = .ok (.if_icmp .eq 14, 3) := by decide +kernel
theorem dX8_cheapest_69 : decode cX8_cheapest 69 = .ok (.aload_n 0, 1) := by decide +kernel
theorem dX8_cheapest_70 : decode cX8_cheapest 70 = .ok (.iload 6, 2) := by decide +kernel
theorem dX8_cheapest_72 : decode cX8_cheapest 72 = .ok (.invokevirtual 241, 3) := by decide +kernel
theorem dX8_cheapest_75 : decode cX8_cheapest 75 = .ok (.iload 4, 2) := by decide +kernel
theorem dX8_cheapest_77 : decode cX8_cheapest 77 = .ok (.if_icmp .ge 7, 3) := by decide +kernel
theorem dX8_cheapest_80 : decode cX8_cheapest 80 = .ok (.iconst 1, 1) := by decide +kernel
theorem dX8_cheapest_81 : decode cX8_cheapest 81 = .ok (.goto 4, 3) := by decide +kernel
theorem dX8_cheapest_84 : decode cX8_cheapest 84 = .ok (.iconst 0, 1) := by decide +kernel
theorem dX8_cheapest_85 : decode cX8_cheapest 85 = .ok (.istore 8, 2) := by decide +kernel
theorem dX8_cheapest_87 : decode cX8_cheapest 87 = .ok (.iload 8, 2) := by decide +kernel
theorem dX8_cheapest_89 : decode cX8_cheapest 89 = .ok (.ifCond .eq 8, 3) := by decide +kernel
theorem dX8_cheapest_92 : decode cX8_cheapest 92 = .ok (.iload 6, 2) := by decide +kernel
theorem dX8_cheapest_94 : decode cX8_cheapest 94 = .ok (.goto 5, 3) := by decide +kernel
theorem dX8_cheapest_97 : decode cX8_cheapest 97 = .ok (.iload 5, 2) := by decide +kernel
theorem dX8_cheapest_99 : decode cX8_cheapest 99 = .ok (.istore 5, 2) := by decide +kernel
theorem dX8_cheapest_101 : decode cX8_cheapest 101 = .ok (.iload 8, 2) := by decide +kernel
theorem dX8_cheapest_103 : decode cX8_cheapest 103 = .ok (.ifCond .eq 12, 3) := by decide +kernel
theorem dX8_cheapest_106 : decode cX8_cheapest 106 = .ok (.aload_n 0, 1) := by decide +kernel
theorem dX8_cheapest_107 : decode cX8_cheapest 107 = .ok (.iload 6, 2) := by decide +kernel
theorem dX8_cheapest_109 : decode cX8_cheapest 109 = .ok (.invokevirtual 241, 3) := by decide +kernel
theorem dX8_cheapest_112 : decode cX8_cheapest 112 = .ok (.goto 5, 3) := by decide +kernel
theorem dX8_cheapest_115 : decode cX8_cheapest 115 = .ok (.iload 4, 2) := by decide +kernel
theorem dX8_cheapest_117 : decode cX8_cheapest 117 = .ok (.istore 4, 2) := by decide +kernel
theorem dX8_cheapest_119 : decode cX8_cheapest 119 = .ok (.iinc 6 1, 3) := by decide +kernel
theorem dX8_cheapest_122 : decode cX8_cheapest 122 = .ok (.goto (-111), 3) := by decide +kernel
theorem dX8_cheapest_125 : decode cX8_cheapest 125 = .ok (.iload_n 3, 1) := by decide +kernel
theorem dX8_cheapest_126 : decode cX8_cheapest 126 = .ok (.ifCond .ne 8, 3) := by decide +kernel
theorem dX8_cheapest_129 : decode cX8_cheapest 129 = .ok (.iload 4, 2) := by decide +kernel
theorem dX8_cheapest_131 : decode cX8_cheapest 131 = .ok (.goto 5, 3) := by decide +kernel
theorem dX8_cheapest_134 : decode cX8_cheapest 134 = .ok (.iload 5, 2) := by decide +kernel
theorem dX8_cheapest_136 : decode cX8_cheapest 136 = .ok (.ireturn, 1) := by decide +kernel
set_option maxRecDepth 20000 in
theorem ggX8_cheap_X8_isLord : GoodIn wsX8_cheap wsX8_isLord := goodIn_r _ [5, 6, 7, 8, 4, 9, 44, 45, 46, 47, 48, 49, 50, 51, 52, 53, 54, 55, 56, 57, 58, 59, 60, 61, 62, 63, 64, 65, 66, 67, 68, 69, 70, 71, 72, 73, 74, 75] (by decide +kernel) (by decide +kernel)
set_option maxRecDepth 20000 in
theorem gX8_cheap_X8_isLord : GoodIn wsX8_cheap (wsV RX8 162 RX8 yX8_isLord wsX8_isLord) := goodIn_app (goodIn_of _ (by decide +kernel)) ggX8_cheap_X8_isLord
set_option maxRecDepth 20000 in
theorem ggX8_cheap_X8_in : GoodIn wsX8_cheap wsX8_in := goodIn_r _ [9] (by decide +kernel) (by decide +kernel)
set_option maxRecDepth 20000 in
theorem gX8_cheap_X8_in : GoodIn wsX8_cheap (va_wsS RX8 52 yX8_in wsX8_in) := goodIn_app (goodIn_of _ (by decide +kernel)) ggX8_cheap_X8_in
set_option maxRecDepth 20000 in
theorem ggX8_cheap_X8_boroughsOf : GoodIn wsX8_cheap wsX8_boroughsOf := goodIn_r _ [13, 14, 15, 16, 17, 4, 18, 19, 44, 45, 46, 47, 48, 49, 50, 51, 52, 53, 54, 55, 56, 57, 58, 59, 60, 61, 62, 63, 64, 65, 66, 67, 68, 69, 70, 71, 72, 73, 74, 75] (by decide +kernel) (by decide +kernel)
set_option maxRecDepth 20000 in
theorem gX8_cheap_X8_boroughsOf : GoodIn wsX8_cheap (wsV RX8 147 RX8 yX8_boroughsOf wsX8_boroughsOf) := goodIn_app (goodIn_of _ (by decide +kernel)) ggX8_cheap_X8_boroughsOf
set_option maxRecDepth 20000 in
theorem ggX8_cheap_X8_all : GoodIn wsX8_cheap wsX8_all := goodIn_r _ [23, 14, 44, 45, 46, 47, 48, 49, 50, 51, 52, 53, 54, 55, 56, 57, 58, 59, 60, 61, 62, 63, 64, 65, 66, 67, 68, 69, 70, 71, 72, 73, 74, 75] (by decide +kernel) (by decide +kernel)
set_option maxRecDepth 20000 in
theorem gX8_cheap_X8_all : GoodIn wsX8_cheap (wsV RX8 144 RX8 yX8_all wsX8_all) := goodIn_app (goodIn_of _ (by decide +kernel)) ggX8_cheap_X8_all
set_option maxRecDepth 20000 in
theorem ggX8_cheap_X8_cheapest : GoodIn wsX8_cheap wsX8_cheapest := goodIn_r _ [27, 20, 21, 22, 4, 23, 14, 28, 29, 30, 31, 19, 32, 33, 34, 35, 36, 37, 38, 39, 40, 41, 42, 43, 44, 45, 46, 47, 48, 49, 50, 51, 52, 53, 54, 55, 56, 57, 58, 59, 60, 61, 62, 63, 64, 65, 66, 67, 68, 69, 70, 71, 72, 73, 74, 75] (by decide +kernel) (by decide +kernel)
set_option maxRecDepth 20000 in
theorem gX8_cheap_X8_cheapest : GoodIn wsX8_cheap (wsV RX8 244 RX8 yX8_cheapest wsX8_cheapest) := goodIn_app (goodIn_of _ (by decide +kernel)) ggX8_cheap_X8_cheapest
theorem dX8_cheap_0 : decode cX8_cheap 0 = .ok (.aload_n 0, 1) := by decide +kernel
theorem dX8_cheap_1 : decode cX8_cheap 1 = .ok (.iload_n 1, 1) := by decide +kernel
theorem dX8_cheap_2 : decode cX8_cheap 2 = .ok (.invokevirtual 162, 3) := by decide +kernel
theorem dX8_cheap_5 : decode cX8_cheap 5 = .ok (.ifCond .eq 13, 3) := by decide +kernel
theorem dX8_cheap_8 : decode cX8_cheap 8 = .ok (.iload_n 2, 1) := by decide +kernel
theorem dX8_cheap_9 : decode cX8_cheap 9 = .ok (.i2l, 1) := by decide +kernel
theorem dX8_cheap_10 : decode cX8_cheap 10 = .ok (.lconst 0, 1) := by decide +kernel
theorem dX8_cheap_11 : decode cX8_cheap 11 = .ok (.lconst 1, 1) := by decide +kernel
theorem dX8_cheap_12 : decode cX8_cheap 12 = .ok (.invokestatic 52, 3) := by decide +kernel
theorem dX8_cheap_15 : decode cX8_cheap 15 = .ok (.ifCond .ne 5, 3) := by decide +kernel
theorem dX8_cheap_18 : decode cX8_cheap 18 = .ok (.iconst (-1), 1) := by decide +kernel
theorem dX8_cheap_19 : decode cX8_cheap 19 = .ok (.ireturn, 1) := by decide +kernel
theorem dX8_cheap_20 : decode cX8_cheap 20 = .ok (.aload_n 0, 1) := by decide +kernel
theorem dX8_cheap_21 : decode cX8_cheap 21 = .ok (.iconst 1, 1) := by decide +kernel
theorem dX8_cheap_22 : decode cX8_cheap 22 = .ok (.iload_n 1, 1) := by decide +kernel
theorem dX8_cheap_23 : decode cX8_cheap 23 = .ok (.ishl, 1) := by decide +kernel
theorem dX8_cheap_24 : decode cX8_cheap 24 = .ok (.invokevirtual 147, 3) := by decide +kernel
theorem dX8_cheap_27 : decode cX8_cheap 27 = .ok (.istore_n 3, 1) := by decide +kernel
theorem dX8_cheap_28 : decode cX8_cheap 28 = .ok (.aload_n 0, 1) := by decide +kernel
theorem dX8_cheap_29 : decode cX8_cheap 29 = .ok (.iload_n 3, 1) := by decide +kernel
theorem dX8_cheap_30 : decode cX8_cheap 30 = .ok (.aload_n 0, 1) := by decide +kernel
theorem dX8_cheap_31 : decode cX8_cheap 31 = .ok (.invokevirtual 144, 3) := by decide +kernel
theorem dX8_cheap_34 : decode cX8_cheap 34 = .ok (.iload_n 3, 1) := by decide +kernel
theorem dX8_cheap_35 : decode cX8_cheap 35 = .ok (.iconst (-1), 1) := by decide +kernel
theorem dX8_cheap_36 : decode cX8_cheap 36 = .ok (.ixor, 1) := by decide +kernel
theorem dX8_cheap_37 : decode cX8_cheap 37 = .ok (.iand, 1) := by decide +kernel
theorem dX8_cheap_38 : decode cX8_cheap 38 = .ok (.iload_n 2, 1) := by decide +kernel
theorem dX8_cheap_39 : decode cX8_cheap 39 = .ok (.invokevirtual 244, 3) := by decide +kernel
theorem dX8_cheap_42 : decode cX8_cheap 42 = .ok (.ireturn, 1) := by decide +kernel
set_option maxRecDepth 20000 in
theorem ggX8_able_X8_isLord : GoodIn wsX8_able wsX8_isLord := goodIn_r _ [6, 7, 8, 9, 5, 10, 28, 29, 30, 31, 32, 33, 34, 35, 36, 37, 38, 39, 40, 41, 42, 43, 44, 45, 46, 47, 48, 49, 50, 51, 52, 53, 54, 55, 56, 57, 58, 59] (by decide +kernel) (by decide +kernel)
set_option maxRecDepth 20000 in
theorem gX8_able_X8_isLord : GoodIn wsX8_able (wsV RX8 162 RX8 yX8_isLord wsX8_isLord) := goodIn_app (goodIn_of _ (by decide +kernel)) ggX8_able_X8_isLord
set_option maxRecDepth 20000 in
theorem ggX8_able_X8_canBuy : GoodIn wsX8_able wsX8_canBuy := goodIn_r _ [14, 15, 16, 17, 18, 5, 19, 20, 21, 22, 23, 24, 25, 26, 27, 28, 29, 30, 31, 32, 33, 34, 35, 36, 37, 38, 39, 40, 41, 42, 43, 44, 45, 46, 47, 48, 49, 50, 51, 52, 53, 54, 55, 56, 57, 58, 59] (by decide +kernel) (by decide +kernel)
set_option maxRecDepth 20000 in
theorem gX8_able_X8_canBuy : GoodIn wsX8_able (wsV RX8 187 RX8 yX8_canBuy wsX8_canBuy) := goodIn_app (goodIn_of _ (by decide +kernel)) ggX8_able_X8_canBuy
theorem dX8_able_0 : decode cX8_able 0 = .ok (.aload_n 0, 1) := by decide +kernel
theorem dX8_able_1 : decode cX8_able 1 = .ok (.iload_n 1, 1) := by decide +kernel
theorem dX8_able_2 : decode cX8_able 2 = .ok (.invokevirtual 162, 3) := by decide +kernel
theorem dX8_able_5 : decode cX8_able 5 = .ok (.ifCond .ne 5, 3) := by decide +kernel
theorem dX8_able_8 : decode cX8_able 8 = .ok (.iconst (-1), 1) := by decide +kernel
theorem dX8_able_9 : decode cX8_able 9 = .ok (.ireturn, 1) := by decide +kernel
theorem dX8_able_10 : decode cX8_able 10 = .ok (.iconst 0, 1) := by decide +kernel
theorem dX8_able_11 : decode cX8_able 11 = .ok (.istore_n 2, 1) := by decide +kernel
theorem dX8_able_12 : decode cX8_able 12 = .ok (.iconst 0, 1) := by decide +kernel
theorem dX8_able_13 : decode cX8_able 13 = .ok (.istore_n 3, 1) := by decide +kernel
theorem dX8_able_14 : decode cX8_able 14 = .ok (.iload_n 3, 1) := by decide +kernel
theorem dX8_able_15 : decode cX8_able 15 = .ok (.aload_n 0, 1) := by decide +kernel
theorem dX8_able_16 : decode cX8_able 16 = .ok (.getfield 132, 3) := by decide +kernel
theorem dX8_able_19 : decode cX8_able 19 = .ok (.if_icmp .ge 28, 3) := by decide +kernel
theorem dX8_able_22 : decode cX8_able 22 = .ok (.iload_n 2, 1) := by decide +kernel
theorem dX8_able_23 : decode cX8_able 23 = .ok (.aload_n 0, 1) := by decide +kernel
theorem dX8_able_24 : decode cX8_able 24 = .ok (.iload_n 1, 1) := by decide +kernel
theorem dX8_able_25 : decode cX8_able 25 = .ok (.iload_n 3, 1) := by decide +kernel
theorem dX8_able_26 : decode cX8_able 26 = .ok (.invokevirtual 187, 3) := by decide +kernel
theorem dX8_able_29 : decode cX8_able 29 = .ok (.ifCond .eq 9, 3) := by decide +kernel
theorem dX8_able_32 : decode cX8_able 32 = .ok (.iconst 1, 1) := by decide +kernel
theorem dX8_able_33 : decode cX8_able 33 = .ok (.iload_n 3, 1) := by decide +kernel
theorem dX8_able_34 : decode cX8_able 34 = .ok (.ishl, 1) := by decide +kernel
theorem dX8_able_35 : decode cX8_able 35 = .ok (.goto 4, 3) := by decide +kernel
theorem dX8_able_38 : decode cX8_able 38 = .ok (.iconst 0, 1) := by decide +kernel
theorem dX8_able_39 : decode cX8_able 39 = .ok (.ior, 1) := by decide +kernel
theorem dX8_able_40 : decode cX8_able 40 = .ok (.istore_n 2, 1) := by decide +kernel
theorem dX8_able_41 : decode cX8_able 41 = .ok (.iinc 3 1, 3) := by decide +kernel
theorem dX8_able_44 : decode cX8_able 44 = .ok (.goto (-30), 3) := by decide +kernel
theorem dX8_able_47 : decode cX8_able 47 = .ok (.iload_n 2, 1) := by decide +kernel
theorem dX8_able_48 : decode cX8_able 48 = .ok (.ireturn, 1) := by decide +kernel
theorem dX8_isMore_0 : decode cX8_isMore 0 = .ok (.lload_n 0, 1) := by decide +kernel
theorem dX8_isMore_1 : decode cX8_isMore 1 = .ok (.lload 6, 2) := by decide +kernel
theorem dX8_isMore_3 : decode cX8_isMore 3 = .ok (.lmul, 1) := by decide +kernel
theorem dX8_isMore_4 : decode cX8_isMore 4 = .ok (.lload 4, 2) := by decide +kernel
theorem dX8_isMore_6 : decode cX8_isMore 6 = .ok (.lload_n 2, 1) := by decide +kernel
theorem dX8_isMore_7 : decode cX8_isMore 7 = .ok (.lmul, 1) := by decide +kernel
theorem dX8_isMore_8 : decode cX8_isMore 8 = .ok (.lcmp, 1) := by decide +kernel
theorem dX8_isMore_9 : decode cX8_isMore 9 = .ok (.ifCond .le 7, 3) := by decide +kernel
theorem dX8_isMore_12 : decode cX8_isMore 12 = .ok (.iconst 1, 1) := by decide +kernel
theorem dX8_isMore_13 : decode cX8_isMore 13 = .ok (.goto 4, 3) := by decide +kernel
theorem dX8_isMore_16 : decode cX8_isMore 16 = .ok (.iconst 0, 1) := by decide +kernel
theorem dX8_isMore_17 : decode cX8_isMore 17 = .ok (.ireturn, 1) := by decide +kernel
set_option maxRecDepth 20000 in
theorem ggX8_climb_X8_isLord : GoodIn wsX8_climb wsX8_isLord := goodIn_r _ [8, 9, 10, 11, 7, 12, 71, 72, 73, 74, 75, 76, 77, 78, 79, 80, 81, 82, 83, 84, 85, 86, 87, 88, 89, 90, 91, 92, 93, 94, 95, 96, 97, 98, 99, 100, 101, 102] (by decide +kernel) (by decide +kernel)
set_option maxRecDepth 20000 in
theorem gX8_climb_X8_isLord : GoodIn wsX8_climb (wsV RX8 162 RX8 yX8_isLord wsX8_isLord) := goodIn_app (goodIn_of _ (by decide +kernel)) ggX8_climb_X8_isLord
set_option maxRecDepth 20000 in
theorem ggX8_climb_X8_laysPlayers : GoodIn wsX8_climb wsX8_laysPlayers := goodIn_r _ [16, 9, 1, 17, 2, 3, 18, 19, 20, 7, 21, 22, 23, 24, 25, 26, 27, 28, 29, 30, 31, 32, 33, 34, 35, 36, 37, 71, 72, 73, 74, 75, 76, 77, 78, 79, 80, 81, 82, 83, 84, 85, 86, 87, 88, 89, 90, 91, 92, 93, 94, 95, 96, 97, 98, 99, 100, 101, 102] (by decide +kernel) (by decide +kernel)
set_option maxRecDepth 20000 in
theorem gX8_climb_X8_laysPlayers : GoodIn wsX8_climb (wsV RX8 217 RX8 yX8_laysPlayers wsX8_laysPlayers) := goodIn_app (goodIn_of _ (by decide +kernel)) ggX8_climb_X8_laysPlayers
set_option maxRecDepth 20000 in
theorem ggX8_climb_X8_ordersBy : GoodIn wsX8_climb wsX8_ordersBy := goodIn_r _ [41, 1, 42, 43, 7, 44, 45, 46, 47, 48, 17, 49, 50, 51, 52, 53, 54, 55, 71, 72, 73, 74, 75, 76, 77, 78, 79, 80, 81, 82, 83, 84, 85, 86, 87, 88, 89, 90, 91, 92, 93, 94, 95, 96, 97, 98, 99, 100, 101, 102] (by decide +kernel) (by decide +kernel)
set_option maxRecDepth 20000 in
theorem gX8_climb_X8_ordersBy : GoodIn wsX8_climb (wsV RX8 232 RX8 yX8_ordersBy wsX8_ordersBy) := goodIn_app (goodIn_of _ (by decide +kernel)) ggX8_climb_X8_ordersBy
set_option maxRecDepth 20000 in
theorem ggX8_climb_X8_ordersOf : GoodIn wsX8_climb wsX8_ordersOf := goodIn_r _ [55] (by decide +kernel) (by decide +kernel)
set_option maxRecDepth 20000 in
theorem gX8_climb_X8_ordersOf : GoodIn wsX8_climb (va_wsS RX8 226 yX8_ordersOf wsX8_ordersOf) := goodIn_app (goodIn_of _ (by decide +kernel)) ggX8_climb_X8_ordersOf
set_option maxRecDepth 20000 in
theorem ggX8_climb_X8_canBuy : GoodIn wsX8_climb wsX8_canBuy := goodIn_r _ [59, 3, 30, 31, 32, 7, 33, 60, 61, 62, 63, 64, 65, 66, 67, 71, 72, 73, 74, 75, 76, 77, 78, 79, 80, 81, 82, 83, 84, 85, 86, 87, 88, 89, 90, 91, 92, 93, 94, 95, 96, 97, 98, 99, 100, 101, 102] (by decide +kernel) (by decide +kernel)
set_option maxRecDepth 20000 in
theorem gX8_climb_X8_canBuy : GoodIn wsX8_climb (wsV RX8 187 RX8 yX8_canBuy wsX8_canBuy) := goodIn_app (goodIn_of _ (by decide +kernel)) ggX8_climb_X8_canBuy
set_option maxRecDepth 20000 in
theorem ggX8_climb_X8_isMore : GoodIn wsX8_climb wsX8_isMore := goodIn_r _ [70] (by decide +kernel) (by decide +kernel)
set_option maxRecDepth 20000 in
theorem gX8_climb_X8_isMore : GoodIn wsX8_climb (va_wsS RX8 248 yX8_isMore wsX8_isMore) := goodIn_app (goodIn_of _ (by decide +kernel)) ggX8_climb_X8_isMore
theorem dX8_climb_0 : decode cX8_climb 0 = .ok (.aload_n 0, 1) := by decide +kernel
theorem dX8_climb_1 : decode cX8_climb 1 = .ok (.iload_n 1, 1) := by decide +kernel
theorem dX8_climb_2 : decode cX8_climb 2 = .ok (.invokevirtual 162, 3) := by decide +kernel
theorem dX8_climb_5 : decode cX8_climb 5 = .ok (.ifCond .ne 5, 3) := by decide +kernel
theorem dX8_climb_8 : decode cX8_climb 8 = .ok (.iconst (-1), 1) := by decide +kernel
theorem dX8_climb_9 : decode cX8_climb 9 = .ok (.ireturn, 1) := by decide +kernel
theorem dX8_climb_10 : decode cX8_climb 10 = .ok (.aload_n 0, 1) := by decide +kernel
theorem dX8_climb_11 : decode cX8_climb 11 = .ok (.bipush (-4), 2) := by decide +kernel
theorem dX8_climb_13 : decode cX8_climb 13 = .ok (.invokevirtual 217, 3) := by decide +kernel
theorem dX8_climb_16 : decode cX8_climb 16 = .ok (.pop, 1) := by decide +kernel
theorem dX8_climb_17 : decode cX8_climb 17 = .ok (.aload_n 0, 1) := by decide +kernel
theorem dX8_climb_18 : decode cX8_climb 18 = .ok (.iload_n 1, 1) := by decide +kernel
theorem dX8_climb_19 : decode cX8_climb 19 = .ok (.invokevirtual 232, 3) := by decide +kernel
theorem dX8_climb_22 : decode cX8_climb 22 = .ok (.lstore_n 2, 1) := by decide +kernel
theorem dX8_climb_23 : decode cX8_climb 23 = .ok (.aload_n 0, 1) := by decide +kernel
theorem dX8_climb_24 : decode cX8_climb 24 = .ok (.getfield 211, 3) := by decide +kernel
theorem dX8_climb_27 : decode cX8_climb 27 = .ok (.invokestatic 226, 3) := by decide +kernel
theorem dX8_climb_30 : decode cX8_climb 30 = .ok (.lstore 4, 2) := by decide +kernel
theorem dX8_climb_32 : decode cX8_climb 32 = .ok (.bipush (-4), 2) := by decide +kernel
theorem dX8_climb_34 : decode cX8_climb 34 = .ok (.istore 6, 2) := by decide +kernel
theorem dX8_climb_36 : decode cX8_climb 36 = .ok (.iconst 0, 1) := by decide +kernel
theorem dX8_climb_37 : decode cX8_climb 37 = .ok (.istore 7, 2) := by decide +kernel
theorem dX8_climb_39 : decode cX8_climb 39 = .ok (.iload 7, 2) := by decide +kernel
theorem dX8_climb_41 : decode cX8_climb 41 = .ok (.aload_n 0, 1) := by decide +kernel
theorem dX8_climb_42 : decode cX8_climb 42 = .ok (.getfield 132, 3) := by decide +kernel
theorem dX8_climb_45 : decode cX8_climb 45 = .ok (.if_icmp .ge 103, 3) := by decide +kernel
theorem dX8_climb_48 : decode cX8_climb 48 = .ok (.aload_n 0, 1) := by decide +kernel
theorem dX8_climb_49 : decode cX8_climb 49 = .ok (.iload_n 1, 1) := by decide +kernel
theorem dX8_climb_50 : decode cX8_climb 50 = .ok (.iload 7, 2) := by decide +kernel
theorem dX8_climb_52 : decode cX8_climb 52 = .ok (.invokevirtual 187, 3) := by decide +kernel
theorem dX8_climb_55 : decode cX8_climb 55 = .ok (.ifCond .eq 87, 3) := by decide +kernel
theorem dX8_climb_58 : decode cX8_climb 58 = .ok (.aload_n 0, 1) := by decide +kernel
theorem dX8_climb_59 : decode cX8_climb 59 = .ok (.getfield 7, 3) := by decide +kernel
theorem dX8_climb_62 : decode cX8_climb 62 = .ok (.bipush 22, 2) := by decide +kernel
theorem dX8_climb_64 : decode cX8_climb 64 = .ok (.iload 7, 2) := by decide +kernel
theorem dX8_climb_66 : decode cX8_climb 66 = .ok (.iadd, 1) := by decide +kernel
theorem dX8_climb_67 : decode cX8_climb 67 = .ok (.iaload, 1) := by decide +kernel
theorem dX8_climb_68 : decode cX8_climb 68 = .ok (.istore 8, 2) := by decide +kernel
theorem dX8_climb_70 : decode cX8_climb 70 = .ok (.aload_n 0, 1) := by decide +kernel
theorem dX8_climb_71 : decode cX8_climb 71 = .ok (.getfield 7, 3) := by decide +kernel
theorem dX8_climb_74 : decode cX8_climb 74 = .ok (.bipush 22, 2) := by decide +kernel
theorem dX8_climb_76 : decode cX8_climb 76 = .ok (.iload 7, 2) := by decide +kernel
theorem dX8_climb_78 : decode cX8_climb 78 = .ok (.iadd, 1) := by decide +kernel
theorem dX8_climb_79 : decode cX8_climb 79 = .ok (.iload_n 1, 1) := by decide +kernel
theorem dX8_climb_80 : decode cX8_climb 80 = .ok (.iconst 1, 1) := by decide +kernel
theorem dX8_climb_81 : decode cX8_climb 81 = .ok (.iadd, 1) := by decide +kernel
theorem dX8_climb_82 : decode cX8_climb 82 = .ok (.iastore, 1) := by decide +kernel
theorem dX8_climb_83 : decode cX8_climb 83 = .ok (.aload_n 0, 1) := by decide +kernel
theorem dX8_climb_84 : decode cX8_climb 84 = .ok (.bipush (-4), 2) := by decide +kernel
theorem dX8_climb_86 : decode cX8_climb 86 = .ok (.invokevirtual 217, 3) := by decide +kernel
theorem dX8_climb_89 : decode cX8_climb 89 = .ok (.pop, 1) := by decide +kernel
theorem dX8_climb_90 : decode cX8_climb 90 = .ok (.aload_n 0, 1) := by decide +kernel
theorem dX8_climb_91 : decode cX8_climb 91 = .ok (.iload_n 1, 1) := by decide +kernel
theorem dX8_climb_92 : decode cX8_climb 92 = .ok (.invokevirtual 232, 3) := by decide +kernel
theorem dX8_climb_95 : decode cX8_climb 95 = .ok (.lstore 9, 2) := by decide +kernel
theorem dX8_climb_97 : decode cX8_climb 97 = .ok (.aload_n 0, 1) := by decide +kernel
theorem dX8_climb_98 : decode cX8_climb 98 = .ok (.getfield 211, 3) := by decide +kernel
theorem dX8_climb_101 : decode cX8_climb 101 = .ok (.invokestatic 226, 3) := by decide +kernel
theorem dX8_climb_104 : decode cX8_climb 104 = .ok (.lstore 11, 2) := by decide +kernel
theorem dX8_climb_106 : decode cX8_climb 106 = .ok (.aload_n 0, 1) := by decide +kernel
theorem dX8_climb_107 : decode cX8_climb 107 = .ok (.getfield 7, 3) := by decide +kernel
theorem dX8_climb_110 : decode cX8_climb 110 = .ok (.bipush 22, 2) := by decide +kernel
theorem dX8_climb_112 : decode cX8_climb 112 = .ok (.iload 7, 2) := by decide +kernel
theorem dX8_climb_114 : decode cX8_climb 114 = .ok (.iadd, 1) := by decide +kernel
theorem dX8_climb_115 : decode cX8_climb 115 = .ok (.iload 8, 2) := by decide +kernel
theorem dX8_climb_117 : decode cX8_climb 117 = .ok (.iastore, 1) := by decide +kernel
theorem dX8_climb_118 : decode cX8_climb 118 = .ok (.lload 9, 2) := by decide +kernel
theorem dX8_climb_120 : decode cX8_climb 120 = .ok (.lload 11, 2) := by decide +kernel
theorem dX8_climb_122 : decode cX8_climb 122 = .ok (.lload_n 2, 1) := by decide +kernel
theorem dX8_climb_123 : decode cX8_climb 123 = .ok (.lload 4, 2) := by decide +kernel
theorem dX8_climb_125 : decode cX8_climb 125 = .ok (.invokestatic 248, 3) := by decide +kernel
theorem dX8_climb_128 : decode cX8_climb 128 = .ok (.ifCond .eq 14, 3) := by decide +kernel
theorem dX8_climb_131 : decode cX8_climb 131 = .ok (.iload 7, 2) := by decide +kernel
theorem dX8_climb_133 : decode cX8_climb 133 = .ok (.istore 6, 2) := by decide +kernel
theorem dX8_climb_135 : decode cX8_climb 135 = .ok (.lload 9, 2) := by decide +kernel
theorem dX8_climb_137 : decode cX8_climb 137 = .ok (.lstore_n 2, 1) := by decide +kernel
theorem dX8_climb_138 : decode cX8_climb 138 = .ok (.lload 11, 2) := by decide +kernel
theorem dX8_climb_140 : decode cX8_climb 140 = .ok (.lstore 4, 2) := by decide +kernel
theorem dX8_climb_142 : decode cX8_climb 142 = .ok (.iinc 7 1, 3) := by decide +kernel
theorem dX8_climb_145 : decode cX8_climb 145 = .ok (.goto (-106), 3) := by decide +kernel
theorem dX8_climb_148 : decode cX8_climb 148 = .ok (.iload 6, 2) := by decide +kernel
theorem dX8_climb_150 : decode cX8_climb 150 = .ok (.ireturn, 1) := by decide +kernel
set_option maxRecDepth 20000 in
theorem ggX8_small_X8_in : GoodIn wsX8_small wsX8_in := goodIn_r _ [7] (by decide +kernel) (by decide +kernel)
set_option maxRecDepth 20000 in
theorem gX8_small_X8_in : GoodIn wsX8_small (va_wsS RX8 52 yX8_in wsX8_in) := goodIn_app (goodIn_of _ (by decide +kernel)) ggX8_small_X8_in
set_option maxRecDepth 20000 in
theorem ggX8_small_X8_laysRow : GoodIn wsX8_small wsX8_laysRow := goodIn_r _ [11, 2, 12, 13, 3, 14, 15, 16, 6, 17, 18, 19, 20, 21, 22, 23, 24, 25, 26, 27, 28, 29, 30, 31, 32, 33, 34, 35, 36, 37, 38, 39, 40, 41, 42, 43, 44, 45, 46, 47, 48, 49] (by decide +kernel) (by decide +kernel)
set_option maxRecDepth 20000 in
theorem gX8_small_X8_laysRow : GoodIn wsX8_small (wsV RX8 199 RX8 yX8_laysRow wsX8_laysRow) := goodIn_app (goodIn_of _ (by decide +kernel)) ggX8_small_X8_laysRow
theorem dX8_small_0 : decode cX8_small 0 = .ok (.iload_n 1, 1) := by decide +kernel
theorem dX8_small_1 : decode cX8_small 1 = .ok (.i2l, 1) := by decide +kernel
theorem dX8_small_2 : decode cX8_small 2 = .ok (.lconst 0, 1) := by decide +kernel
theorem dX8_small_3 : decode cX8_small 3 = .ok (.ldc2_w 111, 3) := by decide +kernel
theorem dX8_small_6 : decode cX8_small 6 = .ok (.invokestatic 52, 3) := by decide +kernel
theorem dX8_small_9 : decode cX8_small 9 = .ok (.ifCond .ne 5, 3) := by decide +kernel
theorem dX8_small_12 : decode cX8_small 12 = .ok (.iconst (-1), 1) := by decide +kernel
theorem dX8_small_13 : decode cX8_small 13 = .ok (.ireturn, 1) := by decide +kernel
theorem dX8_small_14 : decode cX8_small 14 = .ok (.aload_n 0, 1) := by decide +kernel
theorem dX8_small_15 : decode cX8_small 15 = .ok (.invokevirtual 199, 3) := by decide +kernel
theorem dX8_small_18 : decode cX8_small 18 = .ok (.iload_n 1, 1) := by decide +kernel
theorem dX8_small_19 : decode cX8_small 19 = .ok (.aload_n 0, 1) := by decide +kernel
theorem dX8_small_20 : decode cX8_small 20 = .ok (.getfield 194, 3) := by decide +kernel
theorem dX8_small_23 : decode cX8_small 23 = .ok (.if_icmp .ge 12, 3) := by decide +kernel
theorem dX8_small_26 : decode cX8_small 26 = .ok (.aload_n 0, 1) := by decide +kernel
theorem dX8_small_27 : decode cX8_small 27 = .ok (.getfield 25, 3) := by decide +kernel
theorem dX8_small_30 : decode cX8_small 30 = .ok (.iload_n 1, 1) := by decide +kernel
theorem dX8_small_31 : decode cX8_small 31 = .ok (.iaload, 1) := by decide +kernel
theorem dX8_small_32 : decode cX8_small 32 = .ok (.goto 5, 3) := by decide +kernel
theorem dX8_small_35 : decode cX8_small 35 = .ok (.bipush (-4), 2) := by decide +kernel
theorem dX8_small_37 : decode cX8_small 37 = .ok (.ireturn, 1) := by decide +kernel
set_option maxRecDepth 20000 in
theorem ggX8_line_X8_in : GoodIn wsX8_line wsX8_in := goodIn_r _ [7] (by decide +kernel) (by decide +kernel)
set_option maxRecDepth 20000 in
theorem gX8_line_X8_in : GoodIn wsX8_line (va_wsS RX8 52 yX8_in wsX8_in) := goodIn_app (goodIn_of _ (by decide +kernel)) ggX8_line_X8_in
set_option maxRecDepth 20000 in
theorem ggX8_line_X8_laysRow : GoodIn wsX8_line wsX8_laysRow := goodIn_r _ [11, 2, 12, 13, 3, 14, 15, 16, 6, 17, 18, 19, 20, 21, 22, 23, 24, 25, 26, 27, 28, 29, 30, 31, 32, 33, 34, 35, 36, 37, 38, 39, 40, 41, 42, 43, 44, 45, 46, 47, 48, 49] (by decide +kernel) (by decide +kernel)
set_option maxRecDepth 20000 in
theorem gX8_line_X8_laysRow : GoodIn wsX8_line (wsV RX8 199 RX8 yX8_laysRow wsX8_laysRow) := goodIn_app (goodIn_of _ (by decide +kernel)) ggX8_line_X8_laysRow
set_option maxRecDepth 20000 in
theorem ggX8_line_X8_votesOf : GoodIn wsX8_line wsX8_votesOf := goodIn_r _ [17, 13, 18, 19, 20, 21, 22, 23, 24, 25, 26, 27, 28, 29, 30, 31, 32, 33, 34, 35, 36, 37, 38, 39, 40, 41, 42, 43, 44, 45, 46, 47, 48, 49] (by decide +kernel) (by decide +kernel)
set_option maxRecDepth 20000 in
theorem gX8_line_X8_votesOf : GoodIn wsX8_line (wsV RX8 138 RX8 yX8_votesOf wsX8_votesOf) := goodIn_app (goodIn_of _ (by decide +kernel)) ggX8_line_X8_votesOf
theorem dX8_line_0 : decode cX8_line 0 = .ok (.iload_n 1, 1) := by decide +kernel
theorem dX8_line_1 : decode cX8_line 1 = .ok (.i2l, 1) := by decide +kernel
theorem dX8_line_2 : decode cX8_line 2 = .ok (.lconst 1, 1) := by decide +kernel
theorem dX8_line_3 : decode cX8_line 3 = .ok (.ldc2_w 111, 3) := by decide +kernel
theorem dX8_line_6 : decode cX8_line 6 = .ok (.invokestatic 52, 3) := by decide +kernel
theorem dX8_line_9 : decode cX8_line 9 = .ok (.ifCond .ne 5, 3) := by decide +kernel
theorem dX8_line_12 : decode cX8_line 12 = .ok (.iconst (-1), 1) := by decide +kernel
theorem dX8_line_13 : decode cX8_line 13 = .ok (.ireturn, 1) := by decide +kernel
theorem dX8_line_14 : decode cX8_line 14 = .ok (.aload_n 0, 1) := by decide +kernel
theorem dX8_line_15 : decode cX8_line 15 = .ok (.invokevirtual 199, 3) := by decide +kernel
theorem dX8_line_18 : decode cX8_line 18 = .ok (.iload_n 1, 1) := by decide +kernel
theorem dX8_line_19 : decode cX8_line 19 = .ok (.aload_n 0, 1) := by decide +kernel
theorem dX8_line_20 : decode cX8_line 20 = .ok (.getfield 194, 3) := by decide +kernel
theorem dX8_line_23 : decode cX8_line 23 = .ok (.if_icmp .lt 8, 3) := by decide +kernel
theorem dX8_line_26 : decode cX8_line 26 = .ok (.bipush (-4), 2) := by decide +kernel
theorem dX8_line_28 : decode cX8_line 28 = .ok (.goto 33, 3) := by decide +kernel
theorem dX8_line_31 : decode cX8_line 31 = .ok (.aload_n 0, 1) := by decide +kernel
theorem dX8_line_32 : decode cX8_line 32 = .ok (.aload_n 0, 1) := by decide +kernel
theorem dX8_line_33 : decode cX8_line 33 = .ok (.getfield 25, 3) := by decide +kernel
theorem dX8_line_36 : decode cX8_line 36 = .ok (.iload_n 1, 1) := by decide +kernel
theorem dX8_line_37 : decode cX8_line 37 = .ok (.iconst 1, 1) := by decide +kernel
theorem dX8_line_38 : decode cX8_line 38 = .ok (.isub, 1) := by decide +kernel
theorem dX8_line_39 : decode cX8_line 39 = .ok (.iaload, 1) := by decide +kernel
theorem dX8_line_40 : decode cX8_line 40 = .ok (.invokevirtual 138, 3) := by decide +kernel
theorem dX8_line_43 : decode cX8_line 43 = .ok (.aload_n 0, 1) := by decide +kernel
theorem dX8_line_44 : decode cX8_line 44 = .ok (.aload_n 0, 1) := by decide +kernel
theorem dX8_line_45 : decode cX8_line 45 = .ok (.getfield 25, 3) := by decide +kernel
theorem dX8_line_48 : decode cX8_line 48 = .ok (.iload_n 1, 1) := by decide +kernel
theorem dX8_line_49 : decode cX8_line 49 = .ok (.iaload, 1) := by decide +kernel
theorem dX8_line_50 : decode cX8_line 50 = .ok (.invokevirtual 138, 3) := by decide +kernel
theorem dX8_line_53 : decode cX8_line 53 = .ok (.if_icmp .eq 7, 3) := by decide +kernel
theorem dX8_line_56 : decode cX8_line 56 = .ok (.iconst 1, 1) := by decide +kernel
theorem dX8_line_57 : decode cX8_line 57 = .ok (.goto 4, 3) := by decide +kernel
theorem dX8_line_60 : decode cX8_line 60 = .ok (.iconst 0, 1) := by decide +kernel
theorem dX8_line_61 : decode cX8_line 61 = .ok (.ireturn, 1) := by decide +kernel
set_option maxRecDepth 20000 in
theorem ggX8_bribe_X8_in : GoodIn wsX8_bribe wsX8_in := goodIn_r _ [6] (by decide +kernel) (by decide +kernel)
set_option maxRecDepth 20000 in
theorem gX8_bribe_X8_in : GoodIn wsX8_bribe (va_wsS RX8 52 yX8_in wsX8_in) := goodIn_app (goodIn_of _ (by decide +kernel)) ggX8_bribe_X8_in
set_option maxRecDepth 20000 in
theorem ggX8_bribe_X8_laysRow : GoodIn wsX8_bribe wsX8_laysRow := goodIn_r _ [10, 2, 11, 12, 13, 14, 15, 16, 5, 17, 42, 43, 44, 45, 46, 47, 48, 49, 50, 51, 52, 53, 54, 55, 56, 57, 58, 59, 60, 61, 62, 63, 64, 65, 66, 67, 68, 69, 70, 71, 72, 73] (by decide +kernel) (by decide +kernel)
set_option maxRecDepth 20000 in
theorem gX8_bribe_X8_laysRow : GoodIn wsX8_bribe (wsV RX8 199 RX8 yX8_laysRow wsX8_laysRow) := goodIn_app (goodIn_of _ (by decide +kernel)) ggX8_bribe_X8_laysRow
set_option maxRecDepth 20000 in
theorem ggX8_bribe_X8_firstOf : GoodIn wsX8_bribe wsX8_firstOf := goodIn_r _ [21, 13, 42, 43, 44, 45, 46, 47, 48, 49, 50, 51, 52, 53, 54, 55, 56, 57, 58, 59, 60, 61, 62, 63, 64, 65, 66, 67, 68, 69, 70, 71, 72, 73] (by decide +kernel) (by decide +kernel)
set_option maxRecDepth 20000 in
theorem gX8_bribe_X8_firstOf : GoodIn wsX8_bribe (wsV RX8 202 RX8 yX8_firstOf wsX8_firstOf) := goodIn_app (goodIn_of _ (by decide +kernel)) ggX8_bribe_X8_firstOf
set_option maxRecDepth 20000 in
theorem ggX8_bribe_X8_all : GoodIn wsX8_bribe wsX8_all := goodIn_r _ [25, 11, 42, 43, 44, 45, 46, 47, 48, 49, 50, 51, 52, 53, 54, 55, 56, 57, 58, 59, 60, 61, 62, 63, 64, 65, 66, 67, 68, 69, 70, 71, 72, 73] (by decide +kernel) (by decide +kernel)
set_option maxRecDepth 20000 in
theorem gX8_bribe_X8_all : GoodIn wsX8_bribe (wsV RX8 144 RX8 yX8_all wsX8_all) := goodIn_app (goodIn_of _ (by decide +kernel)) ggX8_bribe_X8_all
set_option maxRecDepth 20000 in
theorem ggX8_bribe_X8_cheapest : GoodIn wsX8_bribe wsX8_cheapest := goodIn_r _ [29, 22, 23, 24, 5, 25, 11, 30, 31, 32, 33, 12, 34, 35, 36, 37, 38, 39, 40, 41, 14, 15, 16, 17, 42, 43, 44, 45, 46, 47, 48, 49, 50, 51, 52, 53, 54, 55, 56, 57, 58, 59, 60, 61, 62, 63, 64, 65, 66, 67, 68, 69, 70, 71, 72, 73] (by decide +kernel) (by decide +kernel)
set_option maxRecDepth 20000 in
theorem gX8_bribe_X8_cheapest : GoodIn wsX8_bribe (wsV RX8 244 RX8 yX8_cheapest wsX8_cheapest) := goodIn_app (goodIn_of _ (by decide +kernel)) ggX8_bribe_X8_cheapest
theorem dX8_bribe_0 : decode cX8_bribe 0 = .ok (.iload_n 1, 1) := by decide +kernel
theorem dX8_bribe_1 : decode cX8_bribe 1 = .ok (.i2l, 1) := by decide +kernel
theorem dX8_bribe_2 : decode cX8_bribe 2 = .ok (.lconst 0, 1) := by decide +kernel
theorem dX8_bribe_3 : decode cX8_bribe 3 = .ok (.ldc2_w 197, 3) := by decide +kernel
theorem dX8_bribe_6 : decode cX8_bribe 6 = .ok (.invokestatic 52, 3) := by decide +kernel
theorem dX8_bribe_9 : decode cX8_bribe 9 = .ok (.ifCond .eq 13, 3) := by decide +kernel
theorem dX8_bribe_12 : decode cX8_bribe 12 = .ok (.iload_n 2, 1) := by decide +kernel
theorem dX8_bribe_13 : decode cX8_bribe 13 = .ok (.i2l, 1) := by decide +kernel
theorem dX8_bribe_14 : decode cX8_bribe 14 = .ok (.lconst 0, 1) := by decide +kernel
theorem dX8_bribe_15 : decode cX8_bribe 15 = .ok (.lconst 1, 1) := by decide +kernel
theorem dX8_bribe_16 : decode cX8_bribe 16 = .ok (.invokestatic 52, 3) := by decide +kernel
theorem dX8_bribe_19 : decode cX8_bribe 19 = .ok (.ifCond .ne 5, 3) := by decide +kernel
theorem dX8_bribe_22 : decode cX8_bribe 22 = .ok (.iconst (-1), 1) := by decide +kernel
theorem dX8_bribe_23 : decode cX8_bribe 23 = .ok (.ireturn, 1) := by decide +kernel
theorem dX8_bribe_24 : decode cX8_bribe 24 = .ok (.aload_n 0, 1) := by decide +kernel
theorem dX8_bribe_25 : decode cX8_bribe 25 = .ok (.invokevirtual 199, 3) := by decide +kernel
theorem dX8_bribe_28 : decode cX8_bribe 28 = .ok (.iload_n 1, 1) := by decide +kernel
theorem dX8_bribe_29 : decode cX8_bribe 29 = .ok (.aload_n 0, 1) := by decide +kernel
theorem dX8_bribe_30 : decode cX8_bribe 30 = .ok (.getfield 194, 3) := by decide +kernel
theorem dX8_bribe_33 : decode cX8_bribe 33 = .ok (.if_icmp .le 6, 3) := by decide +kernel
theorem dX8_bribe_36 : decode cX8_bribe 36 = .ok (.bipush (-4), 2) := by decide +kernel
theorem dX8_bribe_38 : decode cX8_bribe 38 = .ok (.ireturn, 1) := by decide +kernel
theorem dX8_bribe_39 : decode cX8_bribe 39 = .ok (.aload_n 0, 1) := by decide +kernel
theorem dX8_bribe_40 : decode cX8_bribe 40 = .ok (.iload_n 1, 1) := by decide +kernel
theorem dX8_bribe_41 : decode cX8_bribe 41 = .ok (.invokevirtual 202, 3) := by decide +kernel
theorem dX8_bribe_44 : decode cX8_bribe 44 = .ok (.istore_n 3, 1) := by decide +kernel
theorem dX8_bribe_45 : decode cX8_bribe 45 = .ok (.aload_n 0, 1) := by decide +kernel
theorem dX8_bribe_46 : decode cX8_bribe 46 = .ok (.aload_n 0, 1) := by decide +kernel
theorem dX8_bribe_47 : decode cX8_bribe 47 = .ok (.invokevirtual 144, 3) := by decide +kernel
theorem dX8_bribe_50 : decode cX8_bribe 50 = .ok (.iload_n 3, 1) := by decide +kernel
theorem dX8_bribe_51 : decode cX8_bribe 51 = .ok (.iconst (-1), 1) := by decide +kernel
theorem dX8_bribe_52 : decode cX8_bribe 52 = .ok (.ixor, 1) := by decide +kernel
theorem dX8_bribe_53 : decode cX8_bribe 53 = .ok (.iand, 1) := by decide +kernel
theorem dX8_bribe_54 : decode cX8_bribe 54 = .ok (.iload_n 3, 1) := by decide +kernel
theorem dX8_bribe_55 : decode cX8_bribe 55 = .ok (.iload_n 2, 1) := by decide +kernel
theorem dX8_bribe_56 : decode cX8_bribe 56 = .ok (.invokevirtual 244, 3) := by decide +kernel
theorem dX8_bribe_59 : decode cX8_bribe 59 = .ok (.ireturn, 1) := by decide +kernel
set_option maxRecDepth 20000 in
theorem ggX8_byAway_X8_boroughsOf : GoodIn wsX8_byAway wsX8_boroughsOf := goodIn_r _ [7, 1, 8, 9, 10, 6, 11, 12, 24, 25, 26, 27, 28, 29, 30, 31, 32, 33, 34, 35, 36, 37, 38, 39, 40, 41, 42, 43, 44, 45, 46, 47, 48, 49, 50, 51, 52, 53, 54, 55] (by decide +kernel) (by decide +kernel)
set_option maxRecDepth 20000 in
theorem gX8_byAway_X8_boroughsOf : GoodIn wsX8_byAway (wsV RX8 147 RX8 yX8_boroughsOf wsX8_boroughsOf) := goodIn_app (goodIn_of _ (by decide +kernel)) ggX8_byAway_X8_boroughsOf
set_option maxRecDepth 20000 in
theorem ggX8_byAway_X8_all : GoodIn wsX8_byAway wsX8_all := goodIn_r _ [16, 1, 24, 25, 26, 27, 28, 29, 30, 31, 32, 33, 34, 35, 36, 37, 38, 39, 40, 41, 42, 43, 44, 45, 46, 47, 48, 49, 50, 51, 52, 53, 54, 55] (by decide +kernel) (by decide +kernel)
set_option maxRecDepth 20000 in
theorem gX8_byAway_X8_all : GoodIn wsX8_byAway (wsV RX8 144 RX8 yX8_all wsX8_all) := goodIn_app (goodIn_of _ (by decide +kernel)) ggX8_byAway_X8_all
set_option maxRecDepth 20000 in
theorem ggX8_byAway_X8_seatsOf : GoodIn wsX8_byAway wsX8_seatsOf := goodIn_r _ [20, 1, 12, 24, 25, 26, 27, 28, 29, 30, 31, 32, 33, 34, 35, 36, 37, 38, 39, 40, 41, 42, 43, 44, 45, 46, 47, 48, 49, 50, 51, 52, 53, 54, 55] (by decide +kernel) (by decide +kernel)
set_option maxRecDepth 20000 in
theorem gX8_byAway_X8_seatsOf : GoodIn wsX8_byAway (wsV RX8 150 RX8 yX8_seatsOf wsX8_seatsOf) := goodIn_app (goodIn_of _ (by decide +kernel)) ggX8_byAway_X8_seatsOf
set_option maxRecDepth 20000 in
theorem ggX8_byAway_X8_lowest : GoodIn wsX8_byAway wsX8_lowest := goodIn_r _ [23] (by decide +kernel) (by decide +kernel)
set_option maxRecDepth 20000 in
theorem gX8_byAway_X8_lowest : GoodIn wsX8_byAway (va_wsS RX8 235 yX8_lowest wsX8_lowest) := goodIn_app (goodIn_of _ (by decide +kernel)) ggX8_byAway_X8_lowest
theorem dX8_byAway_0 : decode cX8_byAway 0 = .ok (.aload_n 0, 1) := by decide +kernel
theorem dX8_byAway_1 : decode cX8_byAway 1 = .ok (.iload_n 2, 1) := by decide +kernel
theorem dX8_byAway_2 : decode cX8_byAway 2 = .ok (.invokevirtual 147, 3) := by decide +kernel
theorem dX8_byAway_5 : decode cX8_byAway 5 = .ok (.istore 5, 2) := by decide +kernel
theorem dX8_byAway_7 : decode cX8_byAway 7 = .ok (.lconst 0, 1) := by decide +kernel
theorem dX8_byAway_8 : decode cX8_byAway 8 = .ok (.lstore 6, 2) := by decide +kernel
theorem dX8_byAway_10 : decode cX8_byAway 10 = .ok (.lconst 1, 1) := by decide +kernel
theorem dX8_byAway_11 : decode cX8_byAway 11 = .ok (.lstore 8, 2) := by decide +kernel
theorem dX8_byAway_13 : decode cX8_byAway 13 = .ok (.iconst 0, 1) := by decide +kernel
theorem dX8_byAway_14 : decode cX8_byAway 14 = .ok (.istore 10, 2) := by decide +kernel
theorem dX8_byAway_16 : decode cX8_byAway 16 = .ok (.iload 10, 2) := by decide +kernel
theorem dX8_byAway_18 : decode cX8_byAway 18 = .ok (.aload_n 0, 1) := by decide +kernel
theorem dX8_byAway_19 : decode cX8_byAway 19 = .ok (.getfield 132, 3) := by decide +kernel
theorem dX8_byAway_22 : decode cX8_byAway 22 = .ok (.if_icmp .ge 17, 3) := by decide +kernel
theorem dX8_byAway_25 : decode cX8_byAway 25 = .ok (.lload 8, 2) := by decide +kernel
theorem dX8_byAway_27 : decode cX8_byAway 27 = .ok (.ldc2_w 252, 3) := by decide +kernel
theorem dX8_byAway_30 : decode cX8_byAway 30 = .ok (.lmul, 1) := by decide +kernel
theorem dX8_byAway_31 : decode cX8_byAway 31 = .ok (.lstore 8, 2) := by decide +kernel
theorem dX8_byAway_33 : decode cX8_byAway 33 = .ok (.iinc 10 1, 3) := by decide +kernel
theorem dX8_byAway_36 : decode cX8_byAway 36 = .ok (.goto (-20), 3) := by decide +kernel
theorem dX8_byAway_39 : decode cX8_byAway 39 = .ok (.iconst 0, 1) := by decide +kernel
theorem dX8_byAway_40 : decode cX8_byAway 40 = .ok (.istore 10, 2) := by decide +kernel
theorem dX8_byAway_42 : decode cX8_byAway 42 = .ok (.iload 10, 2) := by decide +kernel
theorem dX8_byAway_44 : decode cX8_byAway 44 = .ok (.aload_n 0, 1) := by decide +kernel
theorem dX8_byAway_45 : decode cX8_byAway 45 = .ok (.invokevirtual 144, 3) := by decide +kernel
theorem dX8_byAway_48 : decode cX8_byAway 48 = .ok (.if_icmp .gt 112, 3) := by decide +kernel
theorem dX8_byAway_51 : decode cX8_byAway 51 = .ok (.lconst 1, 1) := by decide +kernel
theorem dX8_byAway_52 : decode cX8_byAway 52 = .ok (.lstore 11, 2) := by decide +kernel
theorem dX8_byAway_54 : decode cX8_byAway 54 = .ok (.iconst 0, 1) := by decide +kernel
theorem dX8_byAway_55 : decode cX8_byAway 55 = .ok (.istore 13, 2) := by decide +kernel
theorem dX8_byAway_57 : decode cX8_byAway 57 = .ok (.iload 13, 2) := by decide +kernel
theorem dX8_byAway_59 : decode cX8_byAway 59 = .ok (.aload_n 0, 1) := by decide +kernel
theorem dX8_byAway_60 : decode cX8_byAway 60 = .ok (.getfield 132, 3) := by decide +kernel
theorem dX8_byAway_63 : decode cX8_byAway 63 = .ok (.if_icmp .ge 35, 3) := by decide +kernel
theorem dX8_byAway_66 : decode cX8_byAway 66 = .ok (.lload 11, 2) := by decide +kernel
theorem dX8_byAway_68 : decode cX8_byAway 68 = .ok (.iload 10, 2) := by decide +kernel
theorem dX8_byAway_70 : decode cX8_byAway 70 = .ok (.iload 13, 2) := by decide +kernel
theorem dX8_byAway_72 : decode cX8_byAway 72 = .ok (.ishr, 1) := by decide +kernel
theorem dX8_byAway_73 : decode cX8_byAway 73 = .ok (.iconst 1, 1) := by decide +kernel
theorem dX8_byAway_74 : decode cX8_byAway 74 = .ok (.iand, 1) := by decide +kernel
theorem dX8_byAway_75 : decode cX8_byAway 75 = .ok (.iconst 1, 1) := by decide +kernel
theorem dX8_byAway_76 : decode cX8_byAway 76 = .ok (.if_icmp .ne 8, 3) := by decide +kernel
theorem dX8_byAway_79 : decode cX8_byAway 79 = .ok (.iload_n 1, 1) := by decide +kernel
theorem dX8_byAway_80 : decode cX8_byAway 80 = .ok (.i2l, 1) := by decide +kernel
theorem dX8_byAway_81 : decode cX8_byAway 81 = .ok (.goto 8, 3) := by decide +kernel
theorem dX8_byAway_84 : decode cX8_byAway 84 = .ok (.bipush 10, 2) := by decide +kernel
theorem dX8_byAway_86 : decode cX8_byAway 86 = .ok (.iload_n 1, 1) := by decide +kernel
theorem dX8_byAway_87 : decode cX8_byAway 87 = .ok (.isub, 1) := by decide +kernel
theorem dX8_byAway_88 : decode cX8_byAway 88 = .ok (.i2l, 1) := by decide +kernel
theorem dX8_byAway_89 : decode cX8_byAway 89 = .ok (.lmul, 1) := by decide +kernel
theorem dX8_byAway_90 : decode cX8_byAway 90 = .ok (.lstore 11, 2) := by decide +kernel
theorem dX8_byAway_92 : decode cX8_byAway 92 = .ok (.iinc 13 1, 3) := by decide +kernel
theorem dX8_byAway_95 : decode cX8_byAway 95 = .ok (.goto (-38), 3) := by decide +kernel
theorem dX8_byAway_98 : decode cX8_byAway 98 = .ok (.aload_n 0, 1) := by decide +kernel
theorem dX8_byAway_99 : decode cX8_byAway 99 = .ok (.iload 5, 2) := by decide +kernel
theorem dX8_byAway_101 : decode cX8_byAway 101 = .ok (.iload 10, 2) := by decide +kernel
theorem dX8_byAway_103 : decode cX8_byAway 103 = .ok (.iconst (-1), 1) := by decide +kernel
theorem dX8_byAway_104 : decode cX8_byAway 104 = .ok (.ixor, 1) := by decide +kernel
theorem dX8_byAway_105 : decode cX8_byAway 105 = .ok (.iand, 1) := by decide +kernel
theorem dX8_byAway_106 : decode cX8_byAway 106 = .ok (.invokevirtual 150, 3) := by decide +kernel
theorem dX8_byAway_109 : decode cX8_byAway 109 = .ok (.istore 13, 2) := by decide +kernel
theorem dX8_byAway_111 : decode cX8_byAway 111 = .ok (.lload 6, 2) := by decide +kernel
theorem dX8_byAway_113 : decode cX8_byAway 113 = .ok (.lload 11, 2) := by decide +kernel
theorem dX8_byAway_115 : decode cX8_byAway 115 = .ok (.iload_n 3, 1) := by decide +kernel
theorem dX8_byAway_116 : decode cX8_byAway 116 = .ok (.ifCond .eq 8, 3) := by decide +kernel
theorem dX8_byAway_119 : decode cX8_byAway 119 = .ok (.iload 13, 2) := by decide +kernel
theorem dX8_byAway_121 : decode cX8_byAway 121 = .ok (.goto 28, 3) := by decide +kernel
theorem dX8_byAway_124 : decode cX8_byAway 124 = .ok (.iconst 2, 1) := by decide +kernel
theorem dX8_byAway_125 : decode cX8_byAway 125 = .ok (.iload 13, 2) := by decide +kernel
theorem dX8_byAway_127 : decode cX8_byAway 127 = .ok (.imul, 1) := by decide +kernel
theorem dX8_byAway_128 : decode cX8_byAway 128 = .ok (.aload_n 0, 1) := by decide +kernel
theorem dX8_byAway_129 : decode cX8_byAway 129 = .ok (.aload_n 0, 1) := by decide +kernel
theorem dX8_byAway_130 : decode cX8_byAway 130 = .ok (.invokevirtual 144, 3) := by decide +kernel
theorem dX8_byAway_133 : decode cX8_byAway 133 = .ok (.iload 10, 2) := by decide +kernel
theorem dX8_byAway_135 : decode cX8_byAway 135 = .ok (.iconst (-1), 1) := by decide +kernel
theorem dX8_byAway_136 : decode cX8_byAway 136 = .ok (.ixor, 1) := by decide +kernel
theorem dX8_byAway_137 : decode cX8_byAway 137 = .ok (.iand, 1) := by decide +kernel
theorem dX8_byAway_138 : decode cX8_byAway 138 = .ok (.invokevirtual 150, 3) := by decide +kernel
theorem dX8_byAway_141 : decode cX8_byAway 141 = .ok (.if_icmp .le 7, 3) := by decide +kernel
theorem dX8_byAway_144 : decode cX8_byAway 144 = .ok (.iconst 1, 1) := by decide +kernel
theorem dX8_byAway_145 : decode cX8_byAway 145 = .ok (.goto 4, 3) := by decide +kernel
theorem dX8_byAway_148 : decode cX8_byAway 148 = .ok (.iconst 0, 1) := by decide +kernel
theorem dX8_byAway_149 : decode cX8_byAway 149 = .ok (.i2l, 1) := by decide +kernel
theorem dX8_byAway_150 : decode cX8_byAway 150 = .ok (.lmul, 1) := by decide +kernel
theorem dX8_byAway_151 : decode cX8_byAway 151 = .ok (.ladd, 1) := by decide +kernel
theorem dX8_byAway_152 : decode cX8_byAway 152 = .ok (.lstore 6, 2) := by decide +kernel
theorem dX8_byAway_154 : decode cX8_byAway 154 = .ok (.iinc 10 1, 3) := by decide +kernel
theorem dX8_byAway_157 : decode cX8_byAway 157 = .ok (.goto (-115), 3) := by decide +kernel
theorem dX8_byAway_160 : decode cX8_byAway 160 = .ok (.lload 6, 2) := by decide +kernel
theorem dX8_byAway_162 : decode cX8_byAway 162 = .ok (.lload 8, 2) := by decide +kernel
theorem dX8_byAway_164 : decode cX8_byAway 164 = .ok (.iload 4, 2) := by decide +kernel
theorem dX8_byAway_166 : decode cX8_byAway 166 = .ok (.invokestatic 235, 3) := by decide +kernel
theorem dX8_byAway_169 : decode cX8_byAway 169 = .ok (.lreturn, 1) := by decide +kernel
set_option maxRecDepth 20000 in
theorem ggX8_luck_X8_in : GoodIn wsX8_luck wsX8_in := goodIn_r _ [6] (by decide +kernel) (by decide +kernel)
set_option maxRecDepth 20000 in
theorem gX8_luck_X8_in : GoodIn wsX8_luck (va_wsS RX8 52 yX8_in wsX8_in) := goodIn_app (goodIn_of _ (by decide +kernel)) ggX8_luck_X8_in
set_option maxRecDepth 20000 in
theorem ggX8_luck_X8_isLords : GoodIn wsX8_luck wsX8_isLords := goodIn_r _ [10, 11, 3, 4, 5, 6, 37, 38, 39, 40, 41, 42, 43, 44, 45, 46, 47, 48, 49, 50, 51, 52, 53, 54, 55, 56, 57, 58, 59, 60, 61, 62, 63, 64, 65, 66, 67, 68] (by decide +kernel) (by decide +kernel)
set_option maxRecDepth 20000 in
theorem gX8_luck_X8_isLords : GoodIn wsX8_luck (wsV RX8 205 RX8 yX8_isLords wsX8_isLords) := goodIn_app (goodIn_of _ (by decide +kernel)) ggX8_luck_X8_isLords
set_option maxRecDepth 20000 in
theorem ggX8_luck_X8_byAway : GoodIn wsX8_luck wsX8_byAway := goodIn_r _ [15, 16, 1, 17, 18, 19, 5, 20, 21, 22, 23, 24, 25, 26, 27, 28, 29, 30, 31, 32, 33, 34, 35, 36, 37, 38, 39, 40, 41, 42, 43, 44, 45, 46, 47, 48, 49, 50, 51, 52, 53, 54, 55, 56, 57, 58, 59, 60, 61, 62, 63, 64, 65, 66, 67, 68] (by decide +kernel) (by decide +kernel)
set_option maxRecDepth 20000 in
theorem gX8_luck_X8_byAway : GoodIn wsX8_luck (wsV RX8 254 RX8 yX8_byAway wsX8_byAway) := goodIn_app (goodIn_of _ (by decide +kernel)) ggX8_luck_X8_byAway
theorem dX8_luck_0 : decode cX8_luck 0 = .ok (.iload_n 1, 1) := by decide +kernel
theorem dX8_luck_1 : decode cX8_luck 1 = .ok (.i2l, 1) := by decide +kernel
theorem dX8_luck_2 : decode cX8_luck 2 = .ok (.lconst 0, 1) := by decide +kernel
theorem dX8_luck_3 : decode cX8_luck 3 = .ok (.ldc2_w 252, 3) := by decide +kernel
theorem dX8_luck_6 : decode cX8_luck 6 = .ok (.invokestatic 52, 3) := by decide +kernel
theorem dX8_luck_9 : decode cX8_luck 9 = .ok (.ifCond .eq 32, 3) := by decide +kernel
theorem dX8_luck_12 : decode cX8_luck 12 = .ok (.aload_n 0, 1) := by decide +kernel
theorem dX8_luck_13 : decode cX8_luck 13 = .ok (.iload_n 2, 1) := by decide +kernel
theorem dX8_luck_14 : decode cX8_luck 14 = .ok (.invokevirtual 205, 3) := by decide +kernel
theorem dX8_luck_17 : decode cX8_luck 17 = .ok (.ifCond .eq 24, 3) := by decide +kernel
theorem dX8_luck_20 : decode cX8_luck 20 = .ok (.iload_n 3, 1) := by decide +kernel
theorem dX8_luck_21 : decode cX8_luck 21 = .ok (.i2l, 1) := by decide +kernel
theorem dX8_luck_22 : decode cX8_luck 22 = .ok (.lconst 0, 1) := by decide +kernel
theorem dX8_luck_23 : decode cX8_luck 23 = .ok (.lconst 1, 1) := by decide +kernel
theorem dX8_luck_24 : decode cX8_luck 24 = .ok (.invokestatic 52, 3) := by decide +kernel
theorem dX8_luck_27 : decode cX8_luck 27 = .ok (.ifCond .eq 14, 3) := by decide +kernel
theorem dX8_luck_30 : decode cX8_luck 30 = .ok (.aload_n 0, 1) := by decide +kernel
theorem dX8_luck_31 : decode cX8_luck 31 = .ok (.iload_n 1, 1) := by decide +kernel
theorem dX8_luck_32 : decode cX8_luck 32 = .ok (.iload_n 2, 1) := by decide +kernel
theorem dX8_luck_33 : decode cX8_luck 33 = .ok (.iconst 0, 1) := by decide +kernel
theorem dX8_luck_34 : decode cX8_luck 34 = .ok (.iload_n 3, 1) := by decide +kernel
theorem dX8_luck_35 : decode cX8_luck 35 = .ok (.invokevirtual 254, 3) := by decide +kernel
theorem dX8_luck_38 : decode cX8_luck 38 = .ok (.goto 6, 3) := by decide +kernel
theorem dX8_luck_41 : decode cX8_luck 41 = .ok (.ldc2_w 230, 3) := by decide +kernel
theorem dX8_luck_44 : decode cX8_luck 44 = .ok (.lreturn, 1) := by decide +kernel
set_option maxRecDepth 20000 in
theorem ggX8_mean_X8_in : GoodIn wsX8_mean wsX8_in := goodIn_r _ [6] (by decide +kernel) (by decide +kernel)
set_option maxRecDepth 20000 in
theorem gX8_mean_X8_in : GoodIn wsX8_mean (va_wsS RX8 52 yX8_in wsX8_in) := goodIn_app (goodIn_of _ (by decide +kernel)) ggX8_mean_X8_in
set_option maxRecDepth 20000 in
theorem ggX8_mean_X8_isLords : GoodIn wsX8_mean wsX8_isLords := goodIn_r _ [10, 11, 3, 4, 5, 6, 37, 38, 39, 40, 41, 42, 43, 44, 45, 46, 47, 48, 49, 50, 51, 52, 53, 54, 55, 56, 57, 58, 59, 60, 61, 62, 63, 64, 65, 66, 67, 68] (by decide +kernel) (by decide +kernel)
set_option maxRecDepth 20000 in
theorem gX8_mean_X8_isLords : GoodIn wsX8_mean (wsV RX8 205 RX8 yX8_isLords wsX8_isLords) := goodIn_app (goodIn_of _ (by decide +kernel)) ggX8_mean_X8_isLords
set_option maxRecDepth 20000 in
theorem ggX8_mean_X8_byAway : GoodIn wsX8_mean wsX8_byAway := goodIn_r _ [15, 16, 1, 17, 18, 19, 5, 20, 21, 22, 23, 24, 25, 26, 27, 28, 29, 30, 31, 32, 33, 34, 35, 36, 37, 38, 39, 40, 41, 42, 43, 44, 45, 46, 47, 48, 49, 50, 51, 52, 53, 54, 55, 56, 57, 58, 59, 60, 61, 62, 63, 64, 65, 66, 67, 68] (by decide +kernel) (by decide +kernel)
set_option maxRecDepth 20000 in
theorem gX8_mean_X8_byAway : GoodIn wsX8_mean (wsV RX8 254 RX8 yX8_byAway wsX8_byAway) := goodIn_app (goodIn_of _ (by decide +kernel)) ggX8_mean_X8_byAway
theorem dX8_mean_0 : decode cX8_mean 0 = .ok (.iload_n 1, 1) := by decide +kernel
theorem dX8_mean_1 : decode cX8_mean 1 = .ok (.i2l, 1) := by decide +kernel
theorem dX8_mean_2 : decode cX8_mean 2 = .ok (.lconst 0, 1) := by decide +kernel
theorem dX8_mean_3 : decode cX8_mean 3 = .ok (.ldc2_w 252, 3) := by decide +kernel
theorem dX8_mean_6 : decode cX8_mean 6 = .ok (.invokestatic 52, 3) := by decide +kernel
theorem dX8_mean_9 : decode cX8_mean 9 = .ok (.ifCond .eq 32, 3) := by decide +kernel
theorem dX8_mean_12 : decode cX8_mean 12 = .ok (.aload_n 0, 1) := by decide +kernel
theorem dX8_mean_13 : decode cX8_mean 13 = .ok (.iload_n 2, 1) := by decide +kernel
theorem dX8_mean_14 : decode cX8_mean 14 = .ok (.invokevirtual 205, 3) := by decide +kernel
theorem dX8_mean_17 : decode cX8_mean 17 = .ok (.ifCond .eq 24, 3) := by decide +kernel
theorem dX8_mean_20 : decode cX8_mean 20 = .ok (.iload_n 3, 1) := by decide +kernel
theorem dX8_mean_21 : decode cX8_mean 21 = .ok (.i2l, 1) := by decide +kernel
theorem dX8_mean_22 : decode cX8_mean 22 = .ok (.lconst 0, 1) := by decide +kernel
theorem dX8_mean_23 : decode cX8_mean 23 = .ok (.lconst 1, 1) := by decide +kernel
theorem dX8_mean_24 : decode cX8_mean 24 = .ok (.invokestatic 52, 3) := by decide +kernel
theorem dX8_mean_27 : decode cX8_mean 27 = .ok (.ifCond .eq 14, 3) := by decide +kernel
theorem dX8_mean_30 : decode cX8_mean 30 = .ok (.aload_n 0, 1) := by decide +kernel
theorem dX8_mean_31 : decode cX8_mean 31 = .ok (.iload_n 1, 1) := by decide +kernel
theorem dX8_mean_32 : decode cX8_mean 32 = .ok (.iload_n 2, 1) := by decide +kernel
theorem dX8_mean_33 : decode cX8_mean 33 = .ok (.iconst 1, 1) := by decide +kernel
theorem dX8_mean_34 : decode cX8_mean 34 = .ok (.iload_n 3, 1) := by decide +kernel
theorem dX8_mean_35 : decode cX8_mean 35 = .ok (.invokevirtual 254, 3) := by decide +kernel
theorem dX8_mean_38 : decode cX8_mean 38 = .ok (.goto 6, 3) := by decide +kernel
theorem dX8_mean_41 : decode cX8_mean 41 = .ok (.ldc2_w 230, 3) := by decide +kernel
theorem dX8_mean_44 : decode cX8_mean 44 = .ok (.lreturn, 1) := by decide +kernel
set_option maxRecDepth 20000 in
theorem ggX8_see_X8_isLords : GoodIn wsX8_see wsX8_isLords := goodIn_r _ [7, 8, 9, 10, 6, 11, 12, 13, 14, 15, 16, 17, 18, 19, 20, 21, 22, 23, 24, 25, 26, 27, 28, 29, 30, 31, 32, 33, 34, 35, 36, 37, 38, 39, 40, 41, 42, 43] (by decide +kernel) (by decide +kernel)
set_option maxRecDepth 20000 in
theorem gX8_see_X8_isLords : GoodIn wsX8_see (wsV RX8 205 RX8 yX8_isLords wsX8_isLords) := goodIn_app (goodIn_of _ (by decide +kernel)) ggX8_see_X8_isLords
theorem dX8_see_0 : decode cX8_see 0 = .ok (.aload_n 0, 1) := by decide +kernel
theorem dX8_see_1 : decode cX8_see 1 = .ok (.iload_n 1, 1) := by decide +kernel
theorem dX8_see_2 : decode cX8_see 2 = .ok (.invokevirtual 205, 3) := by decide +kernel
theorem dX8_see_5 : decode cX8_see 5 = .ok (.ifCond .ne 5, 3) := by decide +kernel
theorem dX8_see_8 : decode cX8_see 8 = .ok (.iconst (-1), 1) := by decide +kernel
theorem dX8_see_9 : decode cX8_see 9 = .ok (.ireturn, 1) := by decide +kernel
theorem dX8_see_10 : decode cX8_see 10 = .ok (.aload_n 0, 1) := by decide +kernel
theorem dX8_see_11 : decode cX8_see 11 = .ok (.getfield 135, 3) := by decide +kernel
theorem dX8_see_14 : decode cX8_see 14 = .ok (.bipush 6, 2) := by decide +kernel
theorem dX8_see_16 : decode cX8_see 16 = .ok (.if_icmp .ne 6, 3) := by decide +kernel
theorem dX8_see_19 : decode cX8_see 19 = .ok (.bipush (-3), 2) := by decide +kernel
theorem dX8_see_21 : decode cX8_see 21 = .ok (.ireturn, 1) := by decide +kernel
theorem dX8_see_22 : decode cX8_see 22 = .ok (.aload_n 0, 1) := by decide +kernel
theorem dX8_see_23 : decode cX8_see 23 = .ok (.getfield 31, 3) := by decide +kernel
theorem dX8_see_26 : decode cX8_see 26 = .ok (.iconst 2, 1) := by decide +kernel
theorem dX8_see_27 : decode cX8_see 27 = .ok (.aload_n 0, 1) := by decide +kernel
theorem dX8_see_28 : decode cX8_see 28 = .ok (.getfield 135, 3) := by decide +kernel
theorem dX8_see_31 : decode cX8_see 31 = .ok (.imul, 1) := by decide +kernel
theorem dX8_see_32 : decode cX8_see 32 = .ok (.iload_n 1, 1) := by decide +kernel
theorem dX8_see_33 : decode cX8_see 33 = .ok (.iastore, 1) := by decide +kernel
theorem dX8_see_34 : decode cX8_see 34 = .ok (.aload_n 0, 1) := by decide +kernel
theorem dX8_see_35 : decode cX8_see 35 = .ok (.getfield 31, 3) := by decide +kernel
theorem dX8_see_38 : decode cX8_see 38 = .ok (.iconst 2, 1) := by decide +kernel
theorem dX8_see_39 : decode cX8_see 39 = .ok (.aload_n 0, 1) := by decide +kernel
theorem dX8_see_40 : decode cX8_see 40 = .ok (.getfield 135, 3) := by decide +kernel
theorem dX8_see_43 : decode cX8_see 43 = .ok (.imul, 1) := by decide +kernel
theorem dX8_see_44 : decode cX8_see 44 = .ok (.iconst 1, 1) := by decide +kernel
theorem dX8_see_45 : decode cX8_see 45 = .ok (.iadd, 1) := by decide +kernel
theorem dX8_see_46 : decode cX8_see 46 = .ok (.iload_n 2, 1) := by decide +kernel
theorem dX8_see_47 : decode cX8_see 47 = .ok (.ifCond .eq 7, 3) := by decide +kernel
theorem dX8_see_50 : decode cX8_see 50 = .ok (.iconst 1, 1) := by decide +kernel
theorem dX8_see_51 : decode cX8_see 51 = .ok (.goto 4, 3) := by decide +kernel
theorem dX8_see_54 : decode cX8_see 54 = .ok (.iconst 0, 1) := by decide +kernel
theorem dX8_see_55 : decode cX8_see 55 = .ok (.iastore, 1) := by decide +kernel
theorem dX8_see_56 : decode cX8_see 56 = .ok (.aload_n 0, 1) := by decide +kernel
theorem dX8_see_57 : decode cX8_see 57 = .ok (.dup, 1) := by decide +kernel
theorem dX8_see_58 : decode cX8_see 58 = .ok (.getfield 135, 3) := by decide +kernel
theorem dX8_see_61 : decode cX8_see 61 = .ok (.iconst 1, 1) := by decide +kernel
theorem dX8_see_62 : decode cX8_see 62 = .ok (.iadd, 1) := by decide +kernel
theorem dX8_see_63 : decode cX8_see 63 = .ok (.putfield 135, 3) := by decide +kernel
theorem dX8_see_66 : decode cX8_see 66 = .ok (.aload_n 0, 1) := by decide +kernel
theorem dX8_see_67 : decode cX8_see 67 = .ok (.getfield 135, 3) := by decide +kernel
theorem dX8_see_70 : decode cX8_see 70 = .ok (.ireturn, 1) := by decide +kernel
set_option maxRecDepth 20000 in
theorem ggX8_forget_X8_in : GoodIn wsX8_forget wsX8_in := goodIn_r _ [5] (by decide +kernel) (by decide +kernel)
set_option maxRecDepth 20000 in
theorem gX8_forget_X8_in : GoodIn wsX8_forget (va_wsS RX8 52 yX8_in wsX8_in) := goodIn_app (goodIn_of _ (by decide +kernel)) ggX8_forget_X8_in
theorem dX8_forget_0 : decode cX8_forget 0 = .ok (.iload_n 1, 1) := by decide +kernel
theorem dX8_forget_1 : decode cX8_forget 1 = .ok (.i2l, 1) := by decide +kernel
theorem dX8_forget_2 : decode cX8_forget 2 = .ok (.lconst 0, 1) := by decide +kernel
theorem dX8_forget_3 : decode cX8_forget 3 = .ok (.aload_n 0, 1) := by decide +kernel
theorem dX8_forget_4 : decode cX8_forget 4 = .ok (.getfield 135, 3) := by decide +kernel
theorem dX8_forget_7 : decode cX8_forget 7 = .ok (.i2l, 1) := by decide +kernel
theorem dX8_forget_8 : decode cX8_forget 8 = .ok (.invokestatic 52, 3) := by decide +kernel
theorem dX8_forget_11 : decode cX8_forget 11 = .ok (.ifCond .ne 5, 3) := by decide +kernel
theorem dX8_forget_14 : decode cX8_forget 14 = .ok (.iconst (-1), 1) := by decide +kernel
theorem dX8_forget_15 : decode cX8_forget 15 = .ok (.ireturn, 1) := by decide +kernel
theorem dX8_forget_16 : decode cX8_forget 16 = .ok (.aload_n 0, 1) := by decide +kernel
theorem dX8_forget_17 : decode cX8_forget 17 = .ok (.getfield 135, 3) := by decide +kernel
theorem dX8_forget_20 : decode cX8_forget 20 = .ok (.istore_n 2, 1) := by decide +kernel
theorem dX8_forget_21 : decode cX8_forget 21 = .ok (.aload_n 0, 1) := by decide +kernel
theorem dX8_forget_22 : decode cX8_forget 22 = .ok (.iload_n 1, 1) := by decide +kernel
theorem dX8_forget_23 : decode cX8_forget 23 = .ok (.putfield 135, 3) := by decide +kernel
theorem dX8_forget_26 : decode cX8_forget 26 = .ok (.iload_n 2, 1) := by decide +kernel
theorem dX8_forget_27 : decode cX8_forget 27 = .ok (.ireturn, 1) := by decide +kernel
set_option maxRecDepth 20000 in
theorem ggX8_isAsSeen_X8_carries : GoodIn wsX8_isAsSeen wsX8_carries := goodIn_r _ [7, 8, 9, 10, 6, 11, 12, 13, 14, 15, 16, 17, 18, 19, 20, 21, 22, 23, 24, 25, 26, 27, 28, 29, 30, 31, 32, 33, 34, 35, 36, 37, 38, 39, 40, 41, 42, 43, 44, 45, 46, 47, 48, 49, 50, 51, 52, 53, 54, 55, 56, 57] (by decide +kernel) (by decide +kernel)
set_option maxRecDepth 20000 in
theorem gX8_isAsSeen_X8_carries : GoodIn wsX8_isAsSeen (wsV RX8 208 RX8 yX8_carries wsX8_carries) := goodIn_app (goodIn_of _ (by decide +kernel)) ggX8_isAsSeen_X8_carries
theorem dX8_isAsSeen_0 : decode cX8_isAsSeen 0 = .ok (.iconst 1, 1) := by decide +kernel
theorem dX8_isAsSeen_1 : decode cX8_isAsSeen 1 = .ok (.istore_n 1, 1) := by decide +kernel
theorem dX8_isAsSeen_2 : decode cX8_isAsSeen 2 = .ok (.iconst 0, 1) := by decide +kernel
theorem dX8_isAsSeen_3 : decode cX8_isAsSeen 3 = .ok (.istore_n 2, 1) := by decide +kernel
theorem dX8_isAsSeen_4 : decode cX8_isAsSeen 4 = .ok (.iload_n 2, 1) := by decide +kernel
theorem dX8_isAsSeen_5 : decode cX8_isAsSeen 5 = .ok (.aload_n 0, 1) := by decide +kernel
theorem dX8_isAsSeen_6 : decode cX8_isAsSeen 6 = .ok (.getfield 135, 3) := by decide +kernel
theorem dX8_isAsSeen_9 : decode cX8_isAsSeen 9 = .ok (.if_icmp .ge 53, 3) := by decide +kernel
theorem dX8_isAsSeen_12 : decode cX8_isAsSeen 12 = .ok (.iload_n 1, 1) := by decide +kernel
theorem dX8_isAsSeen_13 : decode cX8_isAsSeen 13 = .ok (.ifCond .eq 41, 3) := by decide +kernel
theorem dX8_isAsSeen_16 : decode cX8_isAsSeen 16 = .ok (.aload_n 0, 1) := by decide +kernel
theorem dX8_isAsSeen_17 : decode cX8_isAsSeen 17 = .ok (.aload_n 0, 1) := by decide +kernel
theorem dX8_isAsSeen_18 : decode cX8_isAsSeen 18 = .ok (.getfield 31, 3) := by decide +kernel
theorem dX8_isAsSeen_21 : decode cX8_isAsSeen 21 = .ok (.iconst 2, 1) := by decide +kernel
theorem dX8_isAsSeen_22 : decode cX8_isAsSeen 22 = .ok (.iload_n 2, 1) := by decide +kernel
theorem dX8_isAsSeen_23 : decode cX8_isAsSeen 23 = .ok (.imul, 1) := by decide +kernel
theorem dX8_isAsSeen_24 : decode cX8_isAsSeen 24 = .ok (.iaload, 1) := by decide +kernel
theorem dX8_isAsSeen_25 : decode cX8_isAsSeen 25 = .ok (.invokevirtual 208, 3) := by decide +kernel
theorem dX8_isAsSeen_28 : decode cX8_isAsSeen 28 = .ok (.aload_n 0, 1) := by decide +kernel
theorem dX8_isAsSeen_29 : decode cX8_isAsSeen 29 = .ok (.getfield 31, 3) := by decide +kernel
theorem dX8_isAsSeen_32 : decode cX8_isAsSeen 32 = .ok (.iconst 2, 1) := by decide +kernel
theorem dX8_isAsSeen_33 : decode cX8_isAsSeen 33 = .ok (.iload_n 2, 1) := by decide +kernel
theorem dX8_isAsSeen_34 : decode cX8_isAsSeen 34 = .ok (.imul, 1) := by decide +kernel
theorem dX8_isAsSeen_35 : decode cX8_isAsSeen 35 = .ok (.iconst 1, 1) := by decide +kernel
theorem dX8_isAsSeen_36 : decode cX8_isAsSeen 36 = .ok (.iadd, 1) := by decide +kernel
theorem dX8_isAsSeen_37 : decode cX8_isAsSeen 37 = .ok (.iaload, 1) := by decide +kernel
theorem dX8_isAsSeen_38 : decode cX8_isAsSeen 38 = .ok (.iconst 1, 1) := by decide +kernel
theorem dX8_isAsSeen_39 : decode cX8_isAsSeen 39 = .ok (.if_icmp .ne 7, 3) := by decide +kernel
theorem dX8_isAsSeen_42 : decode cX8_isAsSeen 42 = .ok (.iconst 1, 1) := by decide +kernel
theorem dX8_isAsSeen_43 : decode cX8_isAsSeen 43 = .ok (.goto 4, 3) := by decide +kernel
theorem dX8_isAsSeen_46 : decode cX8_isAsSeen 46 = .ok (.iconst 0, 1) := by decide +kernel
theorem dX8_isAsSeen_47 : decode cX8_isAsSeen 47 = .ok (.if_icmp .ne 7, 3) := by decide +kernel
theorem dX8_isAsSeen_50 : decode cX8_isAsSeen 50 = .ok (.iconst 1, 1) := by decide +kernel
theorem dX8_isAsSeen_51 : decode cX8_isAsSeen 51 = .ok (.goto 4, 3) := by decide +kernel
theorem dX8_isAsSeen_54 : decode cX8_isAsSeen 54 = .ok (.iconst 0, 1) := by decide +kernel
theorem dX8_isAsSeen_55 : decode cX8_isAsSeen 55 = .ok (.istore_n 1, 1) := by decide +kernel
theorem dX8_isAsSeen_56 : decode cX8_isAsSeen 56 = .ok (.iinc 2 1, 3) := by decide +kernel
theorem dX8_isAsSeen_59 : decode cX8_isAsSeen 59 = .ok (.goto (-55), 3) := by decide +kernel
theorem dX8_isAsSeen_62 : decode cX8_isAsSeen 62 = .ok (.iload_n 1, 1) := by decide +kernel
theorem dX8_isAsSeen_63 : decode cX8_isAsSeen 63 = .ok (.ireturn, 1) := by decide +kernel
set_option maxRecDepth 20000 in
theorem ggX8_ownersOf_X8_isLord : GoodIn wsX8_ownersOf wsX8_isLord := goodIn_r _ [8, 3, 9, 10, 7, 11, 39, 40, 41, 42, 43, 44, 45, 46, 47, 48, 49, 50, 51, 52, 53, 54, 55, 56, 57, 58, 59, 60, 61, 62, 63, 64, 65, 66, 67, 68, 69, 70] (by decide +kernel) (by decide +kernel)
set_option maxRecDepth 20000 in
theorem gX8_ownersOf_X8_isLord : GoodIn wsX8_ownersOf (wsV RX8 162 RX8 yX8_isLord wsX8_isLord) := goodIn_app (goodIn_of _ (by decide +kernel)) ggX8_ownersOf_X8_isLord
set_option maxRecDepth 20000 in
theorem ggX8_ownersOf_X8_isAsSeen : GoodIn wsX8_ownersOf wsX8_isAsSeen := goodIn_r _ [15, 16, 17, 18, 19, 20, 7, 21, 22, 23, 24, 25, 26, 27, 28, 29, 30, 1, 31, 32, 33, 34, 35, 36, 37, 38, 39, 40, 41, 42, 43, 44, 45, 46, 47, 48, 49, 50, 51, 52, 53, 54, 55, 56, 57, 58, 59, 60, 61, 62, 63, 64, 65, 66, 67, 68, 69, 70] (by decide +kernel) (by decide +kernel)
set_option maxRecDepth 20000 in
theorem gX8_ownersOf_X8_isAsSeen : GoodIn wsX8_ownersOf (wsV RX8 258 RX8 yX8_isAsSeen wsX8_isAsSeen) := goodIn_app (goodIn_of _ (by decide +kernel)) ggX8_ownersOf_X8_isAsSeen
set_option maxRecDepth 20000 in
theorem ggX8_ownersOf_X8_carries : GoodIn wsX8_ownersOf wsX8_carries := goodIn_r _ [21, 22, 23, 24, 7, 25, 26, 27, 28, 29, 30, 1, 31, 32, 33, 34, 35, 36, 37, 38, 39, 40, 41, 42, 43, 44, 45, 46, 47, 48, 49, 50, 51, 52, 53, 54, 55, 56, 57, 58, 59, 60, 61, 62, 63, 64, 65, 66, 67, 68, 69, 70] (by decide +kernel) (by decide +kernel)
set_option maxRecDepth 20000 in
theorem gX8_ownersOf_X8_carries : GoodIn wsX8_ownersOf (wsV RX8 208 RX8 yX8_carries wsX8_carries) := goodIn_app (goodIn_of _ (by decide +kernel)) ggX8_ownersOf_X8_carries
theorem dX8_ownersOf_0 : decode cX8_ownersOf 0 = .ok (.iconst 0, 1) := by decide +kernel
theorem dX8_ownersOf_1 : decode cX8_ownersOf 1 = .ok (.istore_n 2, 1) := by decide +kernel
theorem dX8_ownersOf_2 : decode cX8_ownersOf 2 = .ok (.aload_n 0, 1) := by decide +kernel
theorem dX8_ownersOf_3 : decode cX8_ownersOf 3 = .ok (.getfield 7, 3) := by decide +kernel
theorem dX8_ownersOf_6 : decode cX8_ownersOf 6 = .ok (.bipush 22, 2) := by decide +kernel
theorem dX8_ownersOf_8 : decode cX8_ownersOf 8 = .ok (.iload_n 1, 1) := by decide +kernel
theorem dX8_ownersOf_9 : decode cX8_ownersOf 9 = .ok (.iadd, 1) := by decide +kernel
theorem dX8_ownersOf_10 : decode cX8_ownersOf 10 = .ok (.iaload, 1) := by decide +kernel
theorem dX8_ownersOf_11 : decode cX8_ownersOf 11 = .ok (.istore_n 3, 1) := by decide +kernel
theorem dX8_ownersOf_12 : decode cX8_ownersOf 12 = .ok (.iconst 0, 1) := by decide +kernel
theorem dX8_ownersOf_13 : decode cX8_ownersOf 13 = .ok (.istore 4, 2) := by decide +kernel
theorem dX8_ownersOf_15 : decode cX8_ownersOf 15 = .ok (.iload 4, 2) := by decide +kernel
theorem dX8_ownersOf_17 : decode cX8_ownersOf 17 = .ok (.iconst 4, 1) := by decide +kernel
theorem dX8_ownersOf_18 : decode cX8_ownersOf 18 = .ok (.if_icmp .gt 120, 3) := by decide +kernel
theorem dX8_ownersOf_21 : decode cX8_ownersOf 21 = .ok (.iload 4, 2) := by decide +kernel
theorem dX8_ownersOf_23 : decode cX8_ownersOf 23 = .ok (.iconst 4, 1) := by decide +kernel
theorem dX8_ownersOf_24 : decode cX8_ownersOf 24 = .ok (.if_icmp .eq 12, 3) := by decide +kernel
theorem dX8_ownersOf_27 : decode cX8_ownersOf 27 = .ok (.aload_n 0, 1) := by decide +kernel
theorem dX8_ownersOf_28 : decode cX8_ownersOf 28 = .ok (.iload 4, 2) := by decide +kernel
theorem dX8_ownersOf_30 : decode cX8_ownersOf 30 = .ok (.invokevirtual 162, 3) := by decide +kernel
theorem dX8_ownersOf_33 : decode cX8_ownersOf 33 = .ok (.ifCond .eq 99, 3) := by decide +kernel
theorem dX8_ownersOf_36 : decode cX8_ownersOf 36 = .ok (.aload_n 0, 1) := by decide +kernel
theorem dX8_ownersOf_37 : decode cX8_ownersOf 37 = .ok (.getfield 7, 3) := by decide +kernel
theorem dX8_ownersOf_40 : decode cX8_ownersOf 40 = .ok (.bipush 22, 2) := by decide +kernel
theorem dX8_ownersOf_42 : decode cX8_ownersOf 42 = .ok (.iload_n 1, 1) := by decide +kernel
theorem dX8_ownersOf_43 : decode cX8_ownersOf 43 = .ok (.iadd, 1) := by decide +kernel
theorem dX8_ownersOf_44 : decode cX8_ownersOf 44 = .ok (.iload 4, 2) := by decide +kernel
theorem dX8_ownersOf_46 : decode cX8_ownersOf 46 = .ok (.iconst 4, 1) := by decide +kernel
theorem dX8_ownersOf_47 : decode cX8_ownersOf 47 = .ok (.if_icmp .ne 7, 3) := by decide +kernel
theorem dX8_ownersOf_50 : decode cX8_ownersOf 50 = .ok (.iconst 0, 1) := by decide +kernel
theorem dX8_ownersOf_51 : decode cX8_ownersOf 51 = .ok (.goto 7, 3) := by decide +kernel
theorem dX8_ownersOf_54 : decode cX8_ownersOf 54 = .ok (.iload 4, 2) := by decide +kernel
theorem dX8_ownersOf_56 : decode cX8_ownersOf 56 = .ok (.iconst 1, 1) := by decide +kernel
theorem dX8_ownersOf_57 : decode cX8_ownersOf 57 = .ok (.iadd, 1) := by decide +kernel
theorem dX8_ownersOf_58 : decode cX8_ownersOf 58 = .ok (.iastore, 1) := by decide +kernel
theorem dX8_ownersOf_59 : decode cX8_ownersOf 59 = .ok (.iload_n 2, 1) := by decide +kernel
theorem dX8_ownersOf_60 : decode cX8_ownersOf 60 = .ok (.aload_n 0, 1) := by decide +kernel
theorem dX8_ownersOf_61 : decode cX8_ownersOf 61 = .ok (.invokevirtual 258, 3) := by decide +kernel
theorem dX8_ownersOf_64 : decode cX8_ownersOf 64 = .ok (.ifCond .eq 10, 3) := by decide +kernel
theorem dX8_ownersOf_67 : decode cX8_ownersOf 67 = .ok (.iconst 1, 1) := by decide +kernel
theorem dX8_ownersOf_68 : decode cX8_ownersOf 68 = .ok (.iload 4, 2) := by decide +kernel
theorem dX8_ownersOf_70 : decode cX8_ownersOf 70 = .ok (.ishl, 1) := by decide +kernel
theorem dX8_ownersOf_71 : decode cX8_ownersOf 71 = .ok (.goto 4, 3) := by decide +kernel
theorem dX8_ownersOf_74 : decode cX8_ownersOf 74 = .ok (.iconst 0, 1) := by decide +kernel
theorem dX8_ownersOf_75 : decode cX8_ownersOf 75 = .ok (.ior, 1) := by decide +kernel
theorem dX8_ownersOf_76 : decode cX8_ownersOf 76 = .ok (.istore_n 2, 1) := by decide +kernel
theorem dX8_ownersOf_77 : decode cX8_ownersOf 77 = .ok (.aload_n 0, 1) := by decide +kernel
theorem dX8_ownersOf_78 : decode cX8_ownersOf 78 = .ok (.getfield 34, 3) := by decide +kernel
theorem dX8_ownersOf_81 : decode cX8_ownersOf 81 = .ok (.iload 4, 2) := by decide +kernel
theorem dX8_ownersOf_83 : decode cX8_ownersOf 83 = .ok (.iconst 0, 1) := by decide +kernel
theorem dX8_ownersOf_84 : decode cX8_ownersOf 84 = .ok (.iastore, 1) := by decide +kernel
theorem dX8_ownersOf_85 : decode cX8_ownersOf 85 = .ok (.iconst 0, 1) := by decide +kernel
theorem dX8_ownersOf_86 : decode cX8_ownersOf 86 = .ok (.istore 5, 2) := by decide +kernel
theorem dX8_ownersOf_88 : decode cX8_ownersOf 88 = .ok (.iload 5, 2) := by decide +kernel
theorem dX8_ownersOf_90 : decode cX8_ownersOf 90 = .ok (.iconst 1, 1) := by decide +kernel
theorem dX8_ownersOf_91 : decode cX8_ownersOf 91 = .ok (.aload_n 0, 1) := by decide +kernel
theorem dX8_ownersOf_92 : decode cX8_ownersOf 92 = .ok (.getfield 129, 3) := by decide +kernel
theorem dX8_ownersOf_95 : decode cX8_ownersOf 95 = .ok (.ishl, 1) := by decide +kernel
theorem dX8_ownersOf_96 : decode cX8_ownersOf 96 = .ok (.if_icmp .ge 36, 3) := by decide +kernel
theorem dX8_ownersOf_99 : decode cX8_ownersOf 99 = .ok (.aload_n 0, 1) := by decide +kernel
theorem dX8_ownersOf_100 : decode cX8_ownersOf 100 = .ok (.getfield 34, 3) := by decide +kernel
theorem dX8_ownersOf_103 : decode cX8_ownersOf 103 = .ok (.iload 4, 2) := by decide +kernel
theorem dX8_ownersOf_105 : decode cX8_ownersOf 105 = .ok (.dup2, 1) := by decide +kernel
theorem dX8_ownersOf_106 : decode cX8_ownersOf 106 = .ok (.iaload, 1) := by decide +kernel
theorem dX8_ownersOf_107 : decode cX8_ownersOf 107 = .ok (.aload_n 0, 1) := by decide +kernel
theorem dX8_ownersOf_108 : decode cX8_ownersOf 108 = .ok (.iload 5, 2) := by decide +kernel
theorem dX8_ownersOf_110 : decode cX8_ownersOf 110 = .ok (.invokevirtual 208, 3) := by decide +kernel
theorem dX8_ownersOf_113 : decode cX8_ownersOf 113 = .ok (.ifCond .eq 10, 3) := by decide +kernel
theorem dX8_ownersOf_116 : decode cX8_ownersOf 116 = .ok (.iconst 1, 1) := by decide +kernel
theorem dX8_ownersOf_117 : decode cX8_ownersOf 117 = .ok (.iload 5, 2) := by decide +kernel
theorem dX8_ownersOf_119 : decode cX8_ownersOf 119 = .ok (.ishl, 1) := by decide +kernel
theorem dX8_ownersOf_120 : decode cX8_ownersOf 120 = .ok (.goto 4, 3) := by decide +kernel
theorem dX8_ownersOf_123 : decode cX8_ownersOf 123 = .ok (.iconst 0, 1) := by decide +kernel
theorem dX8_ownersOf_124 : decode cX8_ownersOf 124 = .ok (.ior, 1) := by decide +kernel
theorem dX8_ownersOf_125 : decode cX8_ownersOf 125 = .ok (.iastore, 1) := by decide +kernel
theorem dX8_ownersOf_126 : decode cX8_ownersOf 126 = .ok (.iinc 5 1, 3) := by decide +kernel
theorem dX8_ownersOf_129 : decode cX8_ownersOf 129 = .ok (.goto (-41), 3) := by decide +kernel
theorem dX8_ownersOf_132 : decode cX8_ownersOf 132 = .ok (.iinc 4 1, 3) := by decide +kernel
theorem dX8_ownersOf_135 : decode cX8_ownersOf 135 = .ok (.goto (-120), 3) := by decide +kernel
theorem dX8_ownersOf_138 : decode cX8_ownersOf 138 = .ok (.aload_n 0, 1) := by decide +kernel
theorem dX8_ownersOf_139 : decode cX8_ownersOf 139 = .ok (.getfield 7, 3) := by decide +kernel
theorem dX8_ownersOf_142 : decode cX8_ownersOf 142 = .ok (.bipush 22, 2) := by decide +kernel
theorem dX8_ownersOf_144 : decode cX8_ownersOf 144 = .ok (.iload_n 1, 1) := by decide +kernel
theorem dX8_ownersOf_145 : decode cX8_ownersOf 145 = .ok (.iadd, 1) := by decide +kernel
theorem dX8_ownersOf_146 : decode cX8_ownersOf 146 = .ok (.iload_n 3, 1) := by decide +kernel
theorem dX8_ownersOf_147 : decode cX8_ownersOf 147 = .ok (.iastore, 1) := by decide +kernel
theorem dX8_ownersOf_148 : decode cX8_ownersOf 148 = .ok (.iload_n 2, 1) := by decide +kernel
theorem dX8_ownersOf_149 : decode cX8_ownersOf 149 = .ok (.ireturn, 1) := by decide +kernel
set_option maxRecDepth 20000 in
theorem ggX8_owners_X8_isBorough : GoodIn wsX8_owners wsX8_isBorough := goodIn_r _ [5, 6, 7, 8, 4, 9, 47, 48, 49, 50, 51, 52, 53, 54, 55, 56, 57, 58, 59, 60, 61, 62, 63, 64, 65, 66, 67, 68, 69, 70, 71, 72, 73, 74, 75, 76, 77, 78] (by decide +kernel) (by decide +kernel)
set_option maxRecDepth 20000 in
theorem gX8_owners_X8_isBorough : GoodIn wsX8_owners (wsV RX8 168 RX8 yX8_isBorough wsX8_isBorough) := goodIn_app (goodIn_of _ (by decide +kernel)) ggX8_owners_X8_isBorough
set_option maxRecDepth 20000 in
theorem ggX8_owners_X8_ownersOf : GoodIn wsX8_owners wsX8_ownersOf := goodIn_r _ [13, 14, 15, 16, 17, 18, 19, 4, 20, 7, 8, 9, 21, 22, 23, 24, 25, 26, 27, 28, 29, 30, 31, 32, 33, 34, 6, 35, 36, 37, 38, 39, 40, 41, 42, 43, 44, 45, 46, 47, 48, 49, 50, 51, 52, 53, 54, 55, 56, 57, 58, 59, 60, 61, 62, 63, 64, 65, 66, 67, 68, 69, 70, 71, 72, 73, 74, 75, 76, 77, 78] (by decide +kernel) (by decide +kernel)
set_option maxRecDepth 20000 in
theorem gX8_owners_X8_ownersOf : GoodIn wsX8_owners (wsV RX8 262 RX8 yX8_ownersOf wsX8_ownersOf) := goodIn_app (goodIn_of _ (by decide +kernel)) ggX8_owners_X8_ownersOf
theorem dX8_owners_0 : decode cX8_owners 0 = .ok (.aload_n 0, 1) := by decide +kernel
theorem dX8_owners_1 : decode cX8_owners 1 = .ok (.iload_n 1, 1) := by decide +kernel
theorem dX8_owners_2 : decode cX8_owners 2 = .ok (.invokevirtual 168, 3) := by decide +kernel
theorem dX8_owners_5 : decode cX8_owners 5 = .ok (.ifCond .eq 11, 3) := by decide +kernel
theorem dX8_owners_8 : decode cX8_owners 8 = .ok (.aload_n 0, 1) := by decide +kernel
theorem dX8_owners_9 : decode cX8_owners 9 = .ok (.iload_n 1, 1) := by decide +kernel
theorem dX8_owners_10 : decode cX8_owners 10 = .ok (.invokevirtual 262, 3) := by decide +kernel
theorem dX8_owners_13 : decode cX8_owners 13 = .ok (.goto 4, 3) := by decide +kernel
theorem dX8_owners_16 : decode cX8_owners 16 = .ok (.iconst (-1), 1) := by decide +kernel
theorem dX8_owners_17 : decode cX8_owners 17 = .ok (.ireturn, 1) := by decide +kernel
set_option maxRecDepth 20000 in
theorem ggX8_seats_X8_isBorough : GoodIn wsX8_seats wsX8_isBorough := goodIn_r _ [6, 7, 8, 9, 5, 10, 37, 38, 39, 40, 41, 42, 43, 44, 45, 46, 47, 48, 49, 50, 51, 52, 53, 54, 55, 56, 57, 58, 59, 60, 61, 62, 63, 64, 65, 66, 67, 68] (by decide +kernel) (by decide +kernel)
set_option maxRecDepth 20000 in
theorem gX8_seats_X8_isBorough : GoodIn wsX8_seats (wsV RX8 168 RX8 yX8_isBorough wsX8_isBorough) := goodIn_app (goodIn_of _ (by decide +kernel)) ggX8_seats_X8_isBorough
set_option maxRecDepth 20000 in
theorem ggX8_seats_X8_isAsSeen : GoodIn wsX8_seats wsX8_isAsSeen := goodIn_r _ [14, 15, 16, 17, 18, 19, 5, 20, 21, 22, 23, 24, 7, 25, 26, 27, 28, 1, 29, 30, 31, 32, 33, 34, 35, 36, 37, 38, 39, 40, 41, 42, 43, 44, 45, 46, 47, 48, 49, 50, 51, 52, 53, 54, 55, 56, 57, 58, 59, 60, 61, 62, 63, 64, 65, 66, 67, 68] (by decide +kernel) (by decide +kernel)
set_option maxRecDepth 20000 in
theorem gX8_seats_X8_isAsSeen : GoodIn wsX8_seats (wsV RX8 258 RX8 yX8_isAsSeen wsX8_isAsSeen) := goodIn_app (goodIn_of _ (by decide +kernel)) ggX8_seats_X8_isAsSeen
theorem dX8_seats_0 : decode cX8_seats 0 = .ok (.aload_n 0, 1) := by decide +kernel
theorem dX8_seats_1 : decode cX8_seats 1 = .ok (.iload_n 1, 1) := by decide +kernel
theorem dX8_seats_2 : decode cX8_seats 2 = .ok (.invokevirtual 168, 3) := by decide +kernel
theorem dX8_seats_5 : decode cX8_seats 5 = .ok (.ifCond .ne 5, 3) := by decide +kernel
theorem dX8_seats_8 : decode cX8_seats 8 = .ok (.iconst (-1), 1) := by decide +kernel
theorem dX8_seats_9 : decode cX8_seats 9 = .ok (.ireturn, 1) := by decide +kernel
theorem dX8_seats_10 : decode cX8_seats 10 = .ok (.iconst 0, 1) := by decide +kernel
theorem dX8_seats_11 : decode cX8_seats 11 = .ok (.istore_n 2, 1) := by decide +kernel
theorem dX8_seats_12 : decode cX8_seats 12 = .ok (.aload_n 0, 1) := by decide +kernel
theorem dX8_seats_13 : decode cX8_seats 13 = .ok (.getfield 7, 3) := by decide +kernel
theorem dX8_seats_16 : decode cX8_seats 16 = .ok (.bipush 16, 2) := by decide +kernel
theorem dX8_seats_18 : decode cX8_seats 18 = .ok (.iload_n 1, 1) := by decide +kernel
theorem dX8_seats_19 : decode cX8_seats 19 = .ok (.iadd, 1) := by decide +kernel
theorem dX8_seats_20 : decode cX8_seats 20 = .ok (.iaload, 1) := by decide +kernel
theorem dX8_seats_21 : decode cX8_seats 21 = .ok (.istore_n 3, 1) := by decide +kernel
theorem dX8_seats_22 : decode cX8_seats 22 = .ok (.iconst 0, 1) := by decide +kernel
theorem dX8_seats_23 : decode cX8_seats 23 = .ok (.istore 4, 2) := by decide +kernel
theorem dX8_seats_25 : decode cX8_seats 25 = .ok (.iload 4, 2) := by decide +kernel
theorem dX8_seats_27 : decode cX8_seats 27 = .ok (.iconst 3, 1) := by decide +kernel
theorem dX8_seats_28 : decode cX8_seats 28 = .ok (.if_icmp .gt 38, 3) := by decide +kernel
theorem dX8_seats_31 : decode cX8_seats 31 = .ok (.aload_n 0, 1) := by decide +kernel
theorem dX8_seats_32 : decode cX8_seats 32 = .ok (.getfield 7, 3) := by decide +kernel
theorem dX8_seats_35 : decode cX8_seats 35 = .ok (.bipush 16, 2) := by decide +kernel
theorem dX8_seats_37 : decode cX8_seats 37 = .ok (.iload_n 1, 1) := by decide +kernel
theorem dX8_seats_38 : decode cX8_seats 38 = .ok (.iadd, 1) := by decide +kernel
theorem dX8_seats_39 : decode cX8_seats 39 = .ok (.iload 4, 2) := by decide +kernel
theorem dX8_seats_41 : decode cX8_seats 41 = .ok (.iastore, 1) := by decide +kernel
theorem dX8_seats_42 : decode cX8_seats 42 = .ok (.iload_n 2, 1) := by decide +kernel
theorem dX8_seats_43 : decode cX8_seats 43 = .ok (.aload_n 0, 1) := by decide +kernel
theorem dX8_seats_44 : decode cX8_seats 44 = .ok (.invokevirtual 258, 3) := by decide +kernel
theorem dX8_seats_47 : decode cX8_seats 47 = .ok (.ifCond .eq 10, 3) := by decide +kernel
theorem dX8_seats_50 : decode cX8_seats 50 = .ok (.iconst 1, 1) := by decide +kernel
theorem dX8_seats_51 : decode cX8_seats 51 = .ok (.iload 4, 2) := by decide +kernel
theorem dX8_seats_53 : decode cX8_seats 53 = .ok (.ishl, 1) := by decide +kernel
theorem dX8_seats_54 : decode cX8_seats 54 = .ok (.goto 4, 3) := by decide +kernel
theorem dX8_seats_57 : decode cX8_seats 57 = .ok (.iconst 0, 1) := by decide +kernel
theorem dX8_seats_58 : decode cX8_seats 58 = .ok (.ior, 1) := by decide +kernel
theorem dX8_seats_59 : decode cX8_seats 59 = .ok (.istore_n 2, 1) := by decide +kernel
theorem dX8_seats_60 : decode cX8_seats 60 = .ok (.iinc 4 1, 3) := by decide +kernel
theorem dX8_seats_63 : decode cX8_seats 63 = .ok (.goto (-38), 3) := by decide +kernel
theorem dX8_seats_66 : decode cX8_seats 66 = .ok (.aload_n 0, 1) := by decide +kernel
theorem dX8_seats_67 : decode cX8_seats 67 = .ok (.getfield 7, 3) := by decide +kernel
theorem dX8_seats_70 : decode cX8_seats 70 = .ok (.bipush 16, 2) := by decide +kernel
theorem dX8_seats_72 : decode cX8_seats 72 = .ok (.iload_n 1, 1) := by decide +kernel
theorem dX8_seats_73 : decode cX8_seats 73 = .ok (.iadd, 1) := by decide +kernel
theorem dX8_seats_74 : decode cX8_seats 74 = .ok (.iload_n 3, 1) := by decide +kernel
theorem dX8_seats_75 : decode cX8_seats 75 = .ok (.iastore, 1) := by decide +kernel
theorem dX8_seats_76 : decode cX8_seats 76 = .ok (.iload_n 2, 1) := by decide +kernel
theorem dX8_seats_77 : decode cX8_seats 77 = .ok (.ireturn, 1) := by decide +kernel
set_option maxRecDepth 20000 in
theorem ggX8_ask_X8_isBorough : GoodIn wsX8_ask wsX8_isBorough := goodIn_r _ [7, 8, 9, 10, 6, 11, 50, 51, 52, 53, 54, 55, 56, 57, 58, 59, 60, 61, 62, 63, 64, 65, 66, 67, 68, 69, 70, 71, 72, 73, 74, 75, 76, 77, 78, 79, 80, 81] (by decide +kernel) (by decide +kernel)
set_option maxRecDepth 20000 in
theorem gX8_ask_X8_isBorough : GoodIn wsX8_ask (wsV RX8 168 RX8 yX8_isBorough wsX8_isBorough) := goodIn_app (goodIn_of _ (by decide +kernel)) ggX8_ask_X8_isBorough
set_option maxRecDepth 20000 in
theorem ggX8_ask_X8_in : GoodIn wsX8_ask wsX8_in := goodIn_r _ [11] (by decide +kernel) (by decide +kernel)
set_option maxRecDepth 20000 in
theorem gX8_ask_X8_in : GoodIn wsX8_ask (va_wsS RX8 52 yX8_in wsX8_in) := goodIn_app (goodIn_of _ (by decide +kernel)) ggX8_ask_X8_in
set_option maxRecDepth 20000 in
theorem ggX8_ask_X8_ownersOf : GoodIn wsX8_ask wsX8_ownersOf := goodIn_r _ [15, 16, 2, 1, 17, 18, 19, 6, 20, 9, 10, 11, 21, 22, 23, 24, 25, 26, 27, 28, 29, 30, 31, 32, 33, 34, 8, 35, 36, 37, 38, 39, 40, 41, 42, 43, 44, 45, 46, 50, 51, 52, 53, 54, 55, 56, 57, 58, 59, 60, 61, 62, 63, 64, 65, 66, 67, 68, 69, 70, 71, 72, 73, 74, 75, 76, 77, 78, 79, 80, 81] (by decide +kernel) (by decide +kernel)
set_option maxRecDepth 20000 in
theorem gX8_ask_X8_ownersOf : GoodIn wsX8_ask (wsV RX8 262 RX8 yX8_ownersOf wsX8_ownersOf) := goodIn_app (goodIn_of _ (by decide +kernel)) ggX8_ask_X8_ownersOf
set_option maxRecDepth 20000 in
theorem ggX8_ask_X8_bitsOf : GoodIn wsX8_ask wsX8_bitsOf := goodIn_r _ [49] (by decide +kernel) (by decide +kernel)
set_option maxRecDepth 20000 in
theorem gX8_ask_X8_bitsOf : GoodIn wsX8_ask (va_wsS RX8 223 yX8_bitsOf wsX8_bitsOf) := goodIn_app (goodIn_of _ (by decide +kernel)) ggX8_ask_X8_bitsOf
theorem dX8_ask_0 : decode cX8_ask 0 = .ok (.aload_n 0, 1) := by decide +kernel
theorem dX8_ask_1 : decode cX8_ask 1 = .ok (.iload_n 1, 1) := by decide +kernel
theorem dX8_ask_2 : decode cX8_ask 2 = .ok (.invokevirtual 168, 3) := by decide +kernel
theorem dX8_ask_5 : decode cX8_ask 5 = .ok (.ifCond .eq 13, 3) := by decide +kernel
theorem dX8_ask_8 : decode cX8_ask 8 = .ok (.iload_n 2, 1) := by decide +kernel
theorem dX8_ask_9 : decode cX8_ask 9 = .ok (.i2l, 1) := by decide +kernel
theorem dX8_ask_10 : decode cX8_ask 10 = .ok (.lconst 0, 1) := by decide +kernel
theorem dX8_ask_11 : decode cX8_ask 11 = .ok (.lconst 1, 1) := by decide +kernel
theorem dX8_ask_12 : decode cX8_ask 12 = .ok (.invokestatic 52, 3) := by decide +kernel
theorem dX8_ask_15 : decode cX8_ask 15 = .ok (.ifCond .ne 5, 3) := by decide +kernel
theorem dX8_ask_18 : decode cX8_ask 18 = .ok (.iconst (-1), 1) := by decide +kernel
theorem dX8_ask_19 : decode cX8_ask 19 = .ok (.ireturn, 1) := by decide +kernel
theorem dX8_ask_20 : decode cX8_ask 20 = .ok (.aload_n 0, 1) := by decide +kernel
theorem dX8_ask_21 : decode cX8_ask 21 = .ok (.iload_n 1, 1) := by decide +kernel
theorem dX8_ask_22 : decode cX8_ask 22 = .ok (.invokevirtual 262, 3) := by decide +kernel
theorem dX8_ask_25 : decode cX8_ask 25 = .ok (.istore_n 3, 1) := by decide +kernel
theorem dX8_ask_26 : decode cX8_ask 26 = .ok (.iload_n 3, 1) := by decide +kernel
theorem dX8_ask_27 : decode cX8_ask 27 = .ok (.invokestatic 223, 3) := by decide +kernel
theorem dX8_ask_30 : decode cX8_ask 30 = .ok (.istore 4, 2) := by decide +kernel
theorem dX8_ask_32 : decode cX8_ask 32 = .ok (.iload 4, 2) := by decide +kernel
theorem dX8_ask_34 : decode cX8_ask 34 = .ok (.istore 5, 2) := by decide +kernel
theorem dX8_ask_36 : decode cX8_ask 36 = .ok (.bipush (-4), 2) := by decide +kernel
theorem dX8_ask_38 : decode cX8_ask 38 = .ok (.istore 6, 2) := by decide +kernel
theorem dX8_ask_40 : decode cX8_ask 40 = .ok (.iconst 1, 1) := by decide +kernel
theorem dX8_ask_41 : decode cX8_ask 41 = .ok (.istore 7, 2) := by decide +kernel
theorem dX8_ask_43 : decode cX8_ask 43 = .ok (.iload 7, 2) := by decide +kernel
theorem dX8_ask_45 : decode cX8_ask 45 = .ok (.iconst 1, 1) := by decide +kernel
theorem dX8_ask_46 : decode cX8_ask 46 = .ok (.aload_n 0, 1) := by decide +kernel
theorem dX8_ask_47 : decode cX8_ask 47 = .ok (.getfield 129, 3) := by decide +kernel
theorem dX8_ask_50 : decode cX8_ask 50 = .ok (.ishl, 1) := by decide +kernel
theorem dX8_ask_51 : decode cX8_ask 51 = .ok (.if_icmp .ge 112, 3) := by decide +kernel
theorem dX8_ask_54 : decode cX8_ask 54 = .ok (.iconst 0, 1) := by decide +kernel
theorem dX8_ask_55 : decode cX8_ask 55 = .ok (.istore 8, 2) := by decide +kernel
theorem dX8_ask_57 : decode cX8_ask 57 = .ok (.iconst 0, 1) := by decide +kernel
theorem dX8_ask_58 : decode cX8_ask 58 = .ok (.istore 9, 2) := by decide +kernel
theorem dX8_ask_60 : decode cX8_ask 60 = .ok (.iload 9, 2) := by decide +kernel
theorem dX8_ask_62 : decode cX8_ask 62 = .ok (.iconst 4, 1) := by decide +kernel
theorem dX8_ask_63 : decode cX8_ask 63 = .ok (.if_icmp .gt 40, 3) := by decide +kernel
theorem dX8_ask_66 : decode cX8_ask 66 = .ok (.iload 8, 2) := by decide +kernel
theorem dX8_ask_68 : decode cX8_ask 68 = .ok (.iload_n 3, 1) := by decide +kernel
theorem dX8_ask_69 : decode cX8_ask 69 = .ok (.iload 9, 2) := by decide +kernel
theorem dX8_ask_71 : decode cX8_ask 71 = .ok (.ishr, 1) := by decide +kernel
theorem dX8_ask_72 : decode cX8_ask 72 = .ok (.iconst 1, 1) := by decide +kernel
theorem dX8_ask_73 : decode cX8_ask 73 = .ok (.iand, 1) := by decide +kernel
theorem dX8_ask_74 : decode cX8_ask 74 = .ok (.iconst 1, 1) := by decide +kernel
theorem dX8_ask_75 : decode cX8_ask 75 = .ok (.if_icmp .ne 18, 3) := by decide +kernel
theorem dX8_ask_78 : decode cX8_ask 78 = .ok (.aload_n 0, 1) := by decide +kernel
theorem dX8_ask_79 : decode cX8_ask 79 = .ok (.getfield 34, 3) := by decide +kernel
theorem dX8_ask_82 : decode cX8_ask 82 = .ok (.iload 9, 2) := by decide +kernel
theorem dX8_ask_84 : decode cX8_ask 84 = .ok (.iaload, 1) := by decide +kernel
theorem dX8_ask_85 : decode cX8_ask 85 = .ok (.iload 7, 2) := by decide +kernel
theorem dX8_ask_87 : decode cX8_ask 87 = .ok (.ishr, 1) := by decide +kernel
theorem dX8_ask_88 : decode cX8_ask 88 = .ok (.iconst 1, 1) := by decide +kernel
theorem dX8_ask_89 : decode cX8_ask 89 = .ok (.iand, 1) := by decide +kernel
theorem dX8_ask_90 : decode cX8_ask 90 = .ok (.goto 4, 3) := by decide +kernel
theorem dX8_ask_93 : decode cX8_ask 93 = .ok (.iconst 0, 1) := by decide +kernel
theorem dX8_ask_94 : decode cX8_ask 94 = .ok (.iadd, 1) := by decide +kernel
theorem dX8_ask_95 : decode cX8_ask 95 = .ok (.istore 8, 2) := by decide +kernel
theorem dX8_ask_97 : decode cX8_ask 97 = .ok (.iinc 9 1, 3) := by decide +kernel
theorem dX8_ask_100 : decode cX8_ask 100 = .ok (.goto (-40), 3) := by decide +kernel
theorem dX8_ask_103 : decode cX8_ask 103 = .ok (.iload 8, 2) := by decide +kernel
theorem dX8_ask_105 : decode cX8_ask 105 = .ok (.iload 5, 2) := by decide +kernel
theorem dX8_ask_107 : decode cX8_ask 107 = .ok (.iload 8, 2) := by decide +kernel
theorem dX8_ask_109 : decode cX8_ask 109 = .ok (.isub, 1) := by decide +kernel
theorem dX8_ask_110 : decode cX8_ask 110 = .ok (.if_icmp .le 8, 3) := by decide +kernel
theorem dX8_ask_113 : decode cX8_ask 113 = .ok (.iload 8, 2) := by decide +kernel
theorem dX8_ask_115 : decode cX8_ask 115 = .ok (.goto 8, 3) := by decide +kernel
theorem dX8_ask_118 : decode cX8_ask 118 = .ok (.iload 5, 2) := by decide +kernel
theorem dX8_ask_120 : decode cX8_ask 120 = .ok (.iload 8, 2) := by decide +kernel
theorem dX8_ask_122 : decode cX8_ask 122 = .ok (.isub, 1) := by decide +kernel
theorem dX8_ask_123 : decode cX8_ask 123 = .ok (.istore 9, 2) := by decide +kernel
theorem dX8_ask_125 : decode cX8_ask 125 = .ok (.iload 9, 2) := by decide +kernel
theorem dX8_ask_127 : decode cX8_ask 127 = .ok (.iload 4, 2) := by decide +kernel
theorem dX8_ask_129 : decode cX8_ask 129 = .ok (.if_icmp .ge 8, 3) := by decide +kernel
theorem dX8_ask_132 : decode cX8_ask 132 = .ok (.iload 7, 2) := by decide +kernel
theorem dX8_ask_134 : decode cX8_ask 134 = .ok (.goto 5, 3) := by decide +kernel
theorem dX8_ask_137 : decode cX8_ask 137 = .ok (.iload 6, 2) := by decide +kernel
theorem dX8_ask_139 : decode cX8_ask 139 = .ok (.istore 6, 2) := by decide +kernel
theorem dX8_ask_141 : decode cX8_ask 141 = .ok (.iload 9, 2) := by decide +kernel
theorem dX8_ask_143 : decode cX8_ask 143 = .ok (.iload 4, 2) := by decide +kernel
theorem dX8_ask_145 : decode cX8_ask 145 = .ok (.if_icmp .ge 8, 3) := by decide +kernel
theorem dX8_ask_148 : decode cX8_ask 148 = .ok (.iload 9, 2) := by decide +kernel
theorem dX8_ask_150 : decode cX8_ask 150 = .ok (.goto 5, 3) := by decide +kernel
theorem dX8_ask_153 : decode cX8_ask 153 = .ok (.iload 4, 2) := by decide +kernel
theorem dX8_ask_155 : decode cX8_ask 155 = .ok (.istore 4, 2) := by decide +kernel
theorem dX8_ask_157 : decode cX8_ask 157 = .ok (.iinc 7 1, 3) := by decide +kernel
theorem dX8_ask_160 : decode cX8_ask 160 = .ok (.goto (-117), 3) := by decide +kernel
theorem dX8_ask_163 : decode cX8_ask 163 = .ok (.iload 6, 2) := by decide +kernel
theorem dX8_ask_165 : decode cX8_ask 165 = .ok (.bipush (-4), 2) := by decide +kernel
theorem dX8_ask_167 : decode cX8_ask 167 = .ok (.if_icmp .eq 7, 3) := by decide +kernel
theorem dX8_ask_170 : decode cX8_ask 170 = .ok (.iload_n 2, 1) := by decide +kernel
theorem dX8_ask_171 : decode cX8_ask 171 = .ok (.ifCond .ne 8, 3) := by decide +kernel
theorem dX8_ask_174 : decode cX8_ask 174 = .ok (.iload 6, 2) := by decide +kernel
theorem dX8_ask_176 : decode cX8_ask 176 = .ok (.goto 5, 3) := by decide +kernel
theorem dX8_ask_179 : decode cX8_ask 179 = .ok (.iload 4, 2) := by decide +kernel
theorem dX8_ask_181 : decode cX8_ask 181 = .ok (.ireturn, 1) := by decide +kernel
theorem dX8_draws_0 : decode cX8_draws 0 = .ok (.aload_n 0, 1) := by decide +kernel
theorem dX8_draws_1 : decode cX8_draws 1 = .ok (.aload_n 0, 1) := by decide +kernel
theorem dX8_draws_2 : decode cX8_draws 2 = .ok (.getfield 265, 3) := by decide +kernel
theorem dX8_draws_5 : decode cX8_draws 5 = .ok (.ldc_w 268, 3) := by decide +kernel
theorem dX8_draws_8 : decode cX8_draws 8 = .ok (.imul, 1) := by decide +kernel
theorem dX8_draws_9 : decode cX8_draws 9 = .ok (.sipush 12345, 3) := by decide +kernel
theorem dX8_draws_12 : decode cX8_draws 12 = .ok (.iadd, 1) := by decide +kernel
theorem dX8_draws_13 : decode cX8_draws 13 = .ok (.putfield 265, 3) := by decide +kernel
theorem dX8_draws_16 : decode cX8_draws 16 = .ok (.aload_n 0, 1) := by decide +kernel
theorem dX8_draws_17 : decode cX8_draws 17 = .ok (.getfield 265, 3) := by decide +kernel
theorem dX8_draws_20 : decode cX8_draws 20 = .ok (.bipush 16, 2) := by decide +kernel
theorem dX8_draws_22 : decode cX8_draws 22 = .ok (.ishr, 1) := by decide +kernel
theorem dX8_draws_23 : decode cX8_draws 23 = .ok (.sipush 32767, 3) := by decide +kernel
theorem dX8_draws_26 : decode cX8_draws 26 = .ok (.iand, 1) := by decide +kernel
theorem dX8_draws_27 : decode cX8_draws 27 = .ok (.iload_n 1, 1) := by decide +kernel
theorem dX8_draws_28 : decode cX8_draws 28 = .ok (.irem, 1) := by decide +kernel
theorem dX8_draws_29 : decode cX8_draws 29 = .ok (.ireturn, 1) := by decide +kernel
theorem dX8_copies_0 : decode cX8_copies 0 = .ok (.iconst 0, 1) := by decide +kernel
theorem dX8_copies_1 : decode cX8_copies 1 = .ok (.istore_n 3, 1) := by decide +kernel
theorem dX8_copies_2 : decode cX8_copies 2 = .ok (.iload_n 3, 1) := by decide +kernel
theorem dX8_copies_3 : decode cX8_copies 3 = .ok (.bipush 29, 2) := by decide +kernel
theorem dX8_copies_5 : decode cX8_copies 5 = .ok (.if_icmp .ge 25, 3) := by decide +kernel
theorem dX8_copies_8 : decode cX8_copies 8 = .ok (.aload_n 0, 1) := by decide +kernel
theorem dX8_copies_9 : decode cX8_copies 9 = .ok (.getfield 7, 3) := by decide +kernel
theorem dX8_copies_12 : decode cX8_copies 12 = .ok (.iload_n 2, 1) := by decide +kernel
theorem dX8_copies_13 : decode cX8_copies 13 = .ok (.iload_n 3, 1) := by decide +kernel
theorem dX8_copies_14 : decode cX8_copies 14 = .ok (.iadd, 1) := by decide +kernel
theorem dX8_copies_15 : decode cX8_copies 15 = .ok (.aload_n 0, 1) := by decide +kernel
theorem dX8_copies_16 : decode cX8_copies 16 = .ok (.getfield 7, 3) := by decide +kernel
theorem dX8_copies_19 : decode cX8_copies 19 = .ok (.iload_n 1, 1) := by decide +kernel
theorem dX8_copies_20 : decode cX8_copies 20 = .ok (.iload_n 3, 1) := by decide +kernel
theorem dX8_copies_21 : decode cX8_copies 21 = .ok (.iadd, 1) := by decide +kernel
theorem dX8_copies_22 : decode cX8_copies 22 = .ok (.iaload, 1) := by decide +kernel
theorem dX8_copies_23 : decode cX8_copies 23 = .ok (.iastore, 1) := by decide +kernel
theorem dX8_copies_24 : decode cX8_copies 24 = .ok (.iinc 3 1, 3) := by decide +kernel
theorem dX8_copies_27 : decode cX8_copies 27 = .ok (.goto (-25), 3) := by decide +kernel
theorem dX8_copies_30 : decode cX8_copies 30 = .ok (.return_, 1) := by decide +kernel
set_option maxRecDepth 20000 in
theorem ggX8_drift_X8_in : GoodIn wsX8_drift wsX8_in := goodIn_r _ [8] (by decide +kernel) (by decide +kernel)
set_option maxRecDepth 20000 in
theorem gX8_drift_X8_in : GoodIn wsX8_drift (va_wsS RX8 52 yX8_in wsX8_in) := goodIn_app (goodIn_of _ (by decide +kernel)) ggX8_drift_X8_in
set_option maxRecDepth 20000 in
theorem ggX8_drift_X8_copies : GoodIn wsX8_drift wsX8_copies := goodIn_r _ [12, 13, 51, 52, 53, 54, 55, 56, 57, 58, 59, 60, 61, 62, 63, 64, 65, 66, 67, 68, 69, 70, 71, 72, 73, 74, 75, 76, 77, 78, 79, 80, 81, 82] (by decide +kernel) (by decide +kernel)
set_option maxRecDepth 20000 in
theorem gX8_drift_X8_copies : GoodIn wsX8_drift (wsV RX8 271 RX8 yX8_copies wsX8_copies) := goodIn_app (goodIn_of _ (by decide +kernel)) ggX8_drift_X8_copies
set_option maxRecDepth 20000 in
theorem ggX8_drift_X8_draws : GoodIn wsX8_drift wsX8_draws := goodIn_r _ [17, 4, 18, 51, 52, 53, 54, 55, 56, 57, 58, 59, 60, 61, 62, 63, 64, 65, 66, 67, 68, 69, 70, 71, 72, 73, 74, 75, 76, 77, 78, 79, 80, 81, 82] (by decide +kernel) (by decide +kernel)
set_option maxRecDepth 20000 in
theorem gX8_drift_X8_draws : GoodIn wsX8_drift (wsV RX8 275 RX8 yX8_draws wsX8_draws) := goodIn_app (goodIn_of _ (by decide +kernel)) ggX8_drift_X8_draws
set_option maxRecDepth 20000 in
theorem ggX8_drift_X8_buys : GoodIn wsX8_drift wsX8_buys := goodIn_r _ [22, 13, 23, 24, 25, 7, 26, 2, 5, 6, 8, 27, 28, 29, 30, 3, 31, 32, 33, 34, 35, 36, 37, 38, 39, 40, 41, 42, 43, 44, 45, 46, 51, 52, 53, 54, 55, 56, 57, 58, 59, 60, 61, 62, 63, 64, 65, 66, 67, 68, 69, 70, 71, 72, 73, 74, 75, 76, 77, 78, 79, 80, 81, 82] (by decide +kernel) (by decide +kernel)
set_option maxRecDepth 20000 in
theorem gX8_drift_X8_buys : GoodIn wsX8_drift (wsV RX8 191 RX8 yX8_buys wsX8_buys) := goodIn_app (goodIn_of _ (by decide +kernel)) ggX8_drift_X8_buys
set_option maxRecDepth 20000 in
theorem ggX8_drift_X8_guineas : GoodIn wsX8_drift wsX8_guineas := goodIn_r _ [50, 2, 13, 51, 52, 53, 54, 55, 56, 57, 58, 59, 60, 61, 62, 63, 64, 65, 66, 67, 68, 69, 70, 71, 72, 73, 74, 75, 76, 77, 78, 79, 80, 81, 82] (by decide +kernel) (by decide +kernel)
set_option maxRecDepth 20000 in
theorem gX8_drift_X8_guineas : GoodIn wsX8_drift (wsV RX8 153 RX8 yX8_guineas wsX8_guineas) := goodIn_app (goodIn_of _ (by decide +kernel)) ggX8_drift_X8_guineas
theorem dX8_drift_0 : decode cX8_drift 0 = .ok (.iload_n 2, 1) := by decide +kernel
theorem dX8_drift_1 : decode cX8_drift 1 = .ok (.i2l, 1) := by decide +kernel
theorem dX8_drift_2 : decode cX8_drift 2 = .ok (.lconst 1, 1) := by decide +kernel
theorem dX8_drift_3 : decode cX8_drift 3 = .ok (.ldc2_w 269, 3) := by decide +kernel
theorem dX8_drift_6 : decode cX8_drift 6 = .ok (.invokestatic 52, 3) := by decide +kernel
theorem dX8_drift_9 : decode cX8_drift 9 = .ok (.ifCond .eq 13, 3) := by decide +kernel
theorem dX8_drift_12 : decode cX8_drift 12 = .ok (.iload_n 3, 1) := by decide +kernel
theorem dX8_drift_13 : decode cX8_drift 13 = .ok (.i2l, 1) := by decide +kernel
theorem dX8_drift_14 : decode cX8_drift 14 = .ok (.lconst 0, 1) := by decide +kernel
theorem dX8_drift_15 : decode cX8_drift 15 = .ok (.lconst 1, 1) := by decide +kernel
theorem dX8_drift_16 : decode cX8_drift 16 = .ok (.invokestatic 52, 3) := by decide +kernel
theorem dX8_drift_19 : decode cX8_drift 19 = .ok (.ifCond .ne 5, 3) := by decide +kernel
theorem dX8_drift_22 : decode cX8_drift 22 = .ok (.iconst (-1), 1) := by decide +kernel
theorem dX8_drift_23 : decode cX8_drift 23 = .ok (.ireturn, 1) := by decide +kernel
theorem dX8_drift_24 : decode cX8_drift 24 = .ok (.aload_n 0, 1) := by decide +kernel
theorem dX8_drift_25 : decode cX8_drift 25 = .ok (.getfield 129, 3) := by decide +kernel
theorem dX8_drift_28 : decode cX8_drift 28 = .ok (.ifCond .eq 10, 3) := by decide +kernel
theorem dX8_drift_31 : decode cX8_drift 31 = .ok (.aload_n 0, 1) := by decide +kernel
theorem dX8_drift_32 : decode cX8_drift 32 = .ok (.getfield 132, 3) := by decide +kernel
theorem dX8_drift_35 : decode cX8_drift 35 = .ok (.ifCond .ne 6, 3) := by decide +kernel
theorem dX8_drift_38 : decode cX8_drift 38 = .ok (.bipush (-2), 2) := by decide +kernel
theorem dX8_drift_40 : decode cX8_drift 40 = .ok (.ireturn, 1) := by decide +kernel
theorem dX8_drift_41 : decode cX8_drift 41 = .ok (.aload_n 0, 1) := by decide +kernel
theorem dX8_drift_42 : decode cX8_drift 42 = .ok (.iconst 0, 1) := by decide +kernel
theorem dX8_drift_43 : decode cX8_drift 43 = .ok (.bipush 87, 2) := by decide +kernel
theorem dX8_drift_45 : decode cX8_drift 45 = .ok (.invokevirtual 271, 3) := by decide +kernel
theorem dX8_drift_48 : decode cX8_drift 48 = .ok (.aload_n 0, 1) := by decide +kernel
theorem dX8_drift_49 : decode cX8_drift 49 = .ok (.iload_n 1, 1) := by decide +kernel
theorem dX8_drift_50 : decode cX8_drift 50 = .ok (.putfield 265, 3) := by decide +kernel
theorem dX8_drift_53 : decode cX8_drift 53 = .ok (.iconst 0, 1) := by decide +kernel
theorem dX8_drift_54 : decode cX8_drift 54 = .ok (.istore 4, 2) := by decide +kernel
theorem dX8_drift_56 : decode cX8_drift 56 = .ok (.iconst 0, 1) := by decide +kernel
theorem dX8_drift_57 : decode cX8_drift 57 = .ok (.istore 5, 2) := by decide +kernel
theorem dX8_drift_59 : decode cX8_drift 59 = .ok (.iload 5, 2) := by decide +kernel
theorem dX8_drift_61 : decode cX8_drift 61 = .ok (.iload_n 2, 1) := by decide +kernel
theorem dX8_drift_62 : decode cX8_drift 62 = .ok (.if_icmp .ge 46, 3) := by decide +kernel
theorem dX8_drift_65 : decode cX8_drift 65 = .ok (.aload_n 0, 1) := by decide +kernel
theorem dX8_drift_66 : decode cX8_drift 66 = .ok (.aload_n 0, 1) := by decide +kernel
theorem dX8_drift_67 : decode cX8_drift 67 = .ok (.getfield 129, 3) := by decide +kernel
theorem dX8_drift_70 : decode cX8_drift 70 = .ok (.invokevirtual 275, 3) := by decide +kernel
theorem dX8_drift_73 : decode cX8_drift 73 = .ok (.istore 6, 2) := by decide +kernel
theorem dX8_drift_75 : decode cX8_drift 75 = .ok (.iload 4, 2) := by decide +kernel
theorem dX8_drift_77 : decode cX8_drift 77 = .ok (.aload_n 0, 1) := by decide +kernel
theorem dX8_drift_78 : decode cX8_drift 78 = .ok (.iload 6, 2) := by decide +kernel
theorem dX8_drift_80 : decode cX8_drift 80 = .ok (.aload_n 0, 1) := by decide +kernel
theorem dX8_drift_81 : decode cX8_drift 81 = .ok (.aload_n 0, 1) := by decide +kernel
theorem dX8_drift_82 : decode cX8_drift 82 = .ok (.getfield 132, 3) := by decide +kernel
theorem dX8_drift_85 : decode cX8_drift 85 = .ok (.invokevirtual 275, 3) := by decide +kernel
theorem dX8_drift_88 : decode cX8_drift 88 = .ok (.invokevirtual 191, 3) := by decide +kernel
theorem dX8_drift_91 : decode cX8_drift 91 = .ok (.ifCond .lt 7, 3) := by decide +kernel
theorem dX8_drift_94 : decode cX8_drift 94 = .ok (.iconst 1, 1) := by decide +kernel
theorem dX8_drift_95 : decode cX8_drift 95 = .ok (.goto 4, 3) := by decide +kernel
theorem dX8_drift_98 : decode cX8_drift 98 = .ok (.iconst 0, 1) := by decide +kernel
theorem dX8_drift_99 : decode cX8_drift 99 = .ok (.iadd, 1) := by decide +kernel
theorem dX8_drift_100 : decode cX8_drift 100 = .ok (.istore 4, 2) := by decide +kernel
theorem dX8_drift_102 : decode cX8_drift 102 = .ok (.iinc 5 1, 3) := by decide +kernel
theorem dX8_drift_105 : decode cX8_drift 105 = .ok (.goto (-46), 3) := by decide +kernel
theorem dX8_drift_108 : decode cX8_drift 108 = .ok (.aload_n 0, 1) := by decide +kernel
theorem dX8_drift_109 : decode cX8_drift 109 = .ok (.invokevirtual 153, 3) := by decide +kernel
theorem dX8_drift_112 : decode cX8_drift 112 = .ok (.istore 5, 2) := by decide +kernel
theorem dX8_drift_114 : decode cX8_drift 114 = .ok (.aload_n 0, 1) := by decide +kernel
theorem dX8_drift_115 : decode cX8_drift 115 = .ok (.bipush 87, 2) := by decide +kernel
theorem dX8_drift_117 : decode cX8_drift 117 = .ok (.iconst 0, 1) := by decide +kernel
theorem dX8_drift_118 : decode cX8_drift 118 = .ok (.invokevirtual 271, 3) := by decide +kernel
theorem dX8_drift_121 : decode cX8_drift 121 = .ok (.iload_n 3, 1) := by decide +kernel
theorem dX8_drift_122 : decode cX8_drift 122 = .ok (.ifCond .ne 8, 3) := by decide +kernel
theorem dX8_drift_125 : decode cX8_drift 125 = .ok (.iload 4, 2) := by decide +kernel
theorem dX8_drift_127 : decode cX8_drift 127 = .ok (.goto 5, 3) := by decide +kernel
theorem dX8_drift_130 : decode cX8_drift 130 = .ok (.iload 5, 2) := by decide +kernel
theorem dX8_drift_132 : decode cX8_drift 132 = .ok (.ireturn, 1) := by decide +kernel
set_option maxRecDepth 20000 in
theorem ggX8_keep_X8_in : GoodIn wsX8_keep wsX8_in := goodIn_r _ [5] (by decide +kernel) (by decide +kernel)
set_option maxRecDepth 20000 in
theorem gX8_keep_X8_in : GoodIn wsX8_keep (va_wsS RX8 52 yX8_in wsX8_in) := goodIn_app (goodIn_of _ (by decide +kernel)) ggX8_keep_X8_in
set_option maxRecDepth 20000 in
theorem ggX8_keep_X8_copies : GoodIn wsX8_keep wsX8_copies := goodIn_r _ [9, 10, 11, 12, 13, 14, 15, 16, 17, 18, 19, 20, 21, 22, 23, 24, 25, 26, 27, 28, 29, 30, 31, 32, 33, 34, 35, 36, 37, 38, 39, 40, 41, 42] (by decide +kernel) (by decide +kernel)
set_option maxRecDepth 20000 in
theorem gX8_keep_X8_copies : GoodIn wsX8_keep (wsV RX8 271 RX8 yX8_copies wsX8_copies) := goodIn_app (goodIn_of _ (by decide +kernel)) ggX8_keep_X8_copies
theorem dX8_keep_0 : decode cX8_keep 0 = .ok (.iload_n 1, 1) := by decide +kernel
theorem dX8_keep_1 : decode cX8_keep 1 = .ok (.i2l, 1) := by decide +kernel
theorem dX8_keep_2 : decode cX8_keep 2 = .ok (.lconst 0, 1) := by decide +kernel
theorem dX8_keep_3 : decode cX8_keep 3 = .ok (.lconst 1, 1) := by decide +kernel
theorem dX8_keep_4 : decode cX8_keep 4 = .ok (.invokestatic 52, 3) := by decide +kernel
theorem dX8_keep_7 : decode cX8_keep 7 = .ok (.ifCond .ne 5, 3) := by decide +kernel
theorem dX8_keep_10 : decode cX8_keep 10 = .ok (.iconst (-1), 1) := by decide +kernel
theorem dX8_keep_11 : decode cX8_keep 11 = .ok (.ireturn, 1) := by decide +kernel
theorem dX8_keep_12 : decode cX8_keep 12 = .ok (.aload_n 0, 1) := by decide +kernel
theorem dX8_keep_13 : decode cX8_keep 13 = .ok (.iconst 0, 1) := by decide +kernel
theorem dX8_keep_14 : decode cX8_keep 14 = .ok (.bipush 29, 2) := by decide +kernel
theorem dX8_keep_16 : decode cX8_keep 16 = .ok (.iload_n 1, 1) := by decide +kernel
theorem dX8_keep_17 : decode cX8_keep 17 = .ok (.iconst 1, 1) := by decide +kernel
theorem dX8_keep_18 : decode cX8_keep 18 = .ok (.iadd, 1) := by decide +kernel
theorem dX8_keep_19 : decode cX8_keep 19 = .ok (.imul, 1) := by decide +kernel
theorem dX8_keep_20 : decode cX8_keep 20 = .ok (.invokevirtual 271, 3) := by decide +kernel
theorem dX8_keep_23 : decode cX8_keep 23 = .ok (.aload_n 0, 1) := by decide +kernel
theorem dX8_keep_24 : decode cX8_keep 24 = .ok (.getfield 37, 3) := by decide +kernel
theorem dX8_keep_27 : decode cX8_keep 27 = .ok (.iload_n 1, 1) := by decide +kernel
theorem dX8_keep_28 : decode cX8_keep 28 = .ok (.baload, 1) := by decide +kernel
theorem dX8_keep_29 : decode cX8_keep 29 = .ok (.ifCond .eq 7, 3) := by decide +kernel
theorem dX8_keep_32 : decode cX8_keep 32 = .ok (.iconst 1, 1) := by decide +kernel
theorem dX8_keep_33 : decode cX8_keep 33 = .ok (.goto 4, 3) := by decide +kernel
theorem dX8_keep_36 : decode cX8_keep 36 = .ok (.iconst 0, 1) := by decide +kernel
theorem dX8_keep_37 : decode cX8_keep 37 = .ok (.istore_n 2, 1) := by decide +kernel
theorem dX8_keep_38 : decode cX8_keep 38 = .ok (.aload_n 0, 1) := by decide +kernel
theorem dX8_keep_39 : decode cX8_keep 39 = .ok (.getfield 37, 3) := by decide +kernel
theorem dX8_keep_42 : decode cX8_keep 42 = .ok (.iload_n 1, 1) := by decide +kernel
theorem dX8_keep_43 : decode cX8_keep 43 = .ok (.iconst 1, 1) := by decide +kernel
theorem dX8_keep_44 : decode cX8_keep 44 = .ok (.bastore, 1) := by decide +kernel
theorem dX8_keep_45 : decode cX8_keep 45 = .ok (.iload_n 2, 1) := by decide +kernel
theorem dX8_keep_46 : decode cX8_keep 46 = .ok (.ireturn, 1) := by decide +kernel
set_option maxRecDepth 20000 in
theorem ggX8_back_X8_in : GoodIn wsX8_back wsX8_in := goodIn_r _ [5] (by decide +kernel) (by decide +kernel)
set_option maxRecDepth 20000 in
theorem gX8_back_X8_in : GoodIn wsX8_back (va_wsS RX8 52 yX8_in wsX8_in) := goodIn_app (goodIn_of _ (by decide +kernel)) ggX8_back_X8_in
set_option maxRecDepth 20000 in
theorem ggX8_back_X8_copies : GoodIn wsX8_back wsX8_copies := goodIn_r _ [9, 10, 16, 17, 18, 19, 20, 21, 22, 23, 24, 25, 26, 27, 28, 29, 30, 31, 32, 33, 34, 35, 36, 37, 38, 39, 40, 41, 42, 43, 44, 45, 46, 47] (by decide +kernel) (by decide +kernel)
set_option maxRecDepth 20000 in
theorem gX8_back_X8_copies : GoodIn wsX8_back (wsV RX8 271 RX8 yX8_copies wsX8_copies) := goodIn_app (goodIn_of _ (by decide +kernel)) ggX8_back_X8_copies
set_option maxRecDepth 20000 in
theorem ggX8_back_X8_guineas : GoodIn wsX8_back wsX8_guineas := goodIn_r _ [14, 15, 10, 16, 17, 18, 19, 20, 21, 22, 23, 24, 25, 26, 27, 28, 29, 30, 31, 32, 33, 34, 35, 36, 37, 38, 39, 40, 41, 42, 43, 44, 45, 46, 47] (by decide +kernel) (by decide +kernel)
set_option maxRecDepth 20000 in
theorem gX8_back_X8_guineas : GoodIn wsX8_back (wsV RX8 153 RX8 yX8_guineas wsX8_guineas) := goodIn_app (goodIn_of _ (by decide +kernel)) ggX8_back_X8_guineas
theorem dX8_back_0 : decode cX8_back 0 = .ok (.iload_n 1, 1) := by decide +kernel
theorem dX8_back_1 : decode cX8_back 1 = .ok (.i2l, 1) := by decide +kernel
theorem dX8_back_2 : decode cX8_back 2 = .ok (.lconst 0, 1) := by decide +kernel
theorem dX8_back_3 : decode cX8_back 3 = .ok (.lconst 1, 1) := by decide +kernel
theorem dX8_back_4 : decode cX8_back 4 = .ok (.invokestatic 52, 3) := by decide +kernel
theorem dX8_back_7 : decode cX8_back 7 = .ok (.ifCond .ne 5, 3) := by decide +kernel
theorem dX8_back_10 : decode cX8_back 10 = .ok (.iconst (-1), 1) := by decide +kernel
theorem dX8_back_11 : decode cX8_back 11 = .ok (.ireturn, 1) := by decide +kernel
theorem dX8_back_12 : decode cX8_back 12 = .ok (.aload_n 0, 1) := by decide +kernel
theorem dX8_back_13 : decode cX8_back 13 = .ok (.getfield 37, 3) := by decide +kernel
theorem dX8_back_16 : decode cX8_back 16 = .ok (.iload_n 1, 1) := by decide +kernel
theorem dX8_back_17 : decode cX8_back 17 = .ok (.baload, 1) := by decide +kernel
theorem dX8_back_18 : decode cX8_back 18 = .ok (.ifCond .ne 6, 3) := by decide +kernel
theorem dX8_back_21 : decode cX8_back 21 = .ok (.bipush (-2), 2) := by decide +kernel
theorem dX8_back_23 : decode cX8_back 23 = .ok (.ireturn, 1) := by decide +kernel
theorem dX8_back_24 : decode cX8_back 24 = .ok (.aload_n 0, 1) := by decide +kernel
theorem dX8_back_25 : decode cX8_back 25 = .ok (.bipush 29, 2) := by decide +kernel
theorem dX8_back_27 : decode cX8_back 27 = .ok (.iload_n 1, 1) := by decide +kernel
theorem dX8_back_28 : decode cX8_back 28 = .ok (.iconst 1, 1) := by decide +kernel
theorem dX8_back_29 : decode cX8_back 29 = .ok (.iadd, 1) := by decide +kernel
theorem dX8_back_30 : decode cX8_back 30 = .ok (.imul, 1) := by decide +kernel
theorem dX8_back_31 : decode cX8_back 31 = .ok (.iconst 0, 1) := by decide +kernel
theorem dX8_back_32 : decode cX8_back 32 = .ok (.invokevirtual 271, 3) := by decide +kernel
theorem dX8_back_35 : decode cX8_back 35 = .ok (.aload_n 0, 1) := by decide +kernel
theorem dX8_back_36 : decode cX8_back 36 = .ok (.invokevirtual 153, 3) := by decide +kernel
theorem dX8_back_39 : decode cX8_back 39 = .ok (.ireturn, 1) := by decide +kernel
set_option maxRecDepth 20000 in
theorem ggX8_sheet_X8_in : GoodIn wsX8_sheet wsX8_in := goodIn_r _ [9] (by decide +kernel) (by decide +kernel)
set_option maxRecDepth 20000 in
theorem gX8_sheet_X8_in : GoodIn wsX8_sheet (va_wsS RX8 52 yX8_in wsX8_in) := goodIn_app (goodIn_of _ (by decide +kernel)) ggX8_sheet_X8_in
theorem dX8_sheet_0 : decode cX8_sheet 0 = .ok (.iload_n 1, 1) := by decide +kernel
theorem dX8_sheet_1 : decode cX8_sheet 1 = .ok (.i2l, 1) := by decide +kernel
theorem dX8_sheet_2 : decode cX8_sheet 2 = .ok (.lconst 0, 1) := by decide +kernel
theorem dX8_sheet_3 : decode cX8_sheet 3 = .ok (.ldc2_w 177, 3) := by decide +kernel
theorem dX8_sheet_6 : decode cX8_sheet 6 = .ok (.invokestatic 52, 3) := by decide +kernel
theorem dX8_sheet_9 : decode cX8_sheet 9 = .ok (.ifCond .eq 21, 3) := by decide +kernel
theorem dX8_sheet_12 : decode cX8_sheet 12 = .ok (.iload_n 2, 1) := by decide +kernel
theorem dX8_sheet_13 : decode cX8_sheet 13 = .ok (.i2l, 1) := by decide +kernel
theorem dX8_sheet_14 : decode cX8_sheet 14 = .ok (.lconst 0, 1) := by decide +kernel
theorem dX8_sheet_15 : decode cX8_sheet 15 = .ok (.ldc2_w 166, 3) := by decide +kernel
theorem dX8_sheet_18 : decode cX8_sheet 18 = .ok (.invokestatic 52, 3) := by decide +kernel
theorem dX8_sheet_21 : decode cX8_sheet 21 = .ok (.ifCond .eq 9, 3) := by decide +kernel
theorem dX8_sheet_24 : decode cX8_sheet 24 = .ok (.iload_n 3, 1) := by decide +kernel
theorem dX8_sheet_25 : decode cX8_sheet 25 = .ok (.bipush 40, 2) := by decide +kernel
theorem dX8_sheet_27 : decode cX8_sheet 27 = .ok (.if_icmp .le 5, 3) := by decide +kernel
theorem dX8_sheet_30 : decode cX8_sheet 30 = .ok (.iconst (-1), 1) := by decide +kernel
theorem dX8_sheet_31 : decode cX8_sheet 31 = .ok (.ireturn, 1) := by decide +kernel
theorem dX8_sheet_32 : decode cX8_sheet 32 = .ok (.iload_n 3, 1) := by decide +kernel
theorem dX8_sheet_33 : decode cX8_sheet 33 = .ok (.ifCond .ge 6, 3) := by decide +kernel
theorem dX8_sheet_36 : decode cX8_sheet 36 = .ok (.bipush (-14), 2) := by decide +kernel
theorem dX8_sheet_38 : decode cX8_sheet 38 = .ok (.ireturn, 1) := by decide +kernel
theorem dX8_sheet_39 : decode cX8_sheet 39 = .ok (.aload_n 0, 1) := by decide +kernel
theorem dX8_sheet_40 : decode cX8_sheet 40 = .ok (.getfield 41, 3) := by decide +kernel
theorem dX8_sheet_43 : decode cX8_sheet 43 = .ok (.iload_n 1, 1) := by decide +kernel
theorem dX8_sheet_44 : decode cX8_sheet 44 = .ok (.iload_n 2, 1) := by decide +kernel
theorem dX8_sheet_45 : decode cX8_sheet 45 = .ok (.iastore, 1) := by decide +kernel
theorem dX8_sheet_46 : decode cX8_sheet 46 = .ok (.aload_n 0, 1) := by decide +kernel
theorem dX8_sheet_47 : decode cX8_sheet 47 = .ok (.getfield 44, 3) := by decide +kernel
theorem dX8_sheet_50 : decode cX8_sheet 50 = .ok (.iload_n 1, 1) := by decide +kernel
theorem dX8_sheet_51 : decode cX8_sheet 51 = .ok (.iload_n 3, 1) := by decide +kernel
theorem dX8_sheet_52 : decode cX8_sheet 52 = .ok (.iastore, 1) := by decide +kernel
theorem dX8_sheet_53 : decode cX8_sheet 53 = .ok (.iconst 0, 1) := by decide +kernel
theorem dX8_sheet_54 : decode cX8_sheet 54 = .ok (.istore 4, 2) := by decide +kernel
theorem dX8_sheet_56 : decode cX8_sheet 56 = .ok (.iload 4, 2) := by decide +kernel
theorem dX8_sheet_58 : decode cX8_sheet 58 = .ok (.bipush 40, 2) := by decide +kernel
theorem dX8_sheet_60 : decode cX8_sheet 60 = .ok (.if_icmp .ge 22, 3) := by decide +kernel
theorem dX8_sheet_63 : decode cX8_sheet 63 = .ok (.aload_n 0, 1) := by decide +kernel
theorem dX8_sheet_64 : decode cX8_sheet 64 = .ok (.getfield 47, 3) := by decide +kernel
theorem dX8_sheet_67 : decode cX8_sheet 67 = .ok (.bipush 40, 2) := by decide +kernel
theorem dX8_sheet_69 : decode cX8_sheet 69 = .ok (.iload_n 1, 1) := by decide +kernel
theorem dX8_sheet_70 : decode cX8_sheet 70 = .ok (.imul, 1) := by decide +kernel
theorem dX8_sheet_71 : decode cX8_sheet 71 = .ok (.iload 4, 2) := by decide +kernel
theorem dX8_sheet_73 : decode cX8_sheet 73 = .ok (.iadd, 1) := by decide +kernel
theorem dX8_sheet_74 : decode cX8_sheet 74 = .ok (.iconst 0, 1) := by decide +kernel
theorem dX8_sheet_75 : decode cX8_sheet 75 = .ok (.iastore, 1) := by decide +kernel
theorem dX8_sheet_76 : decode cX8_sheet 76 = .ok (.iinc 4 1, 3) := by decide +kernel
theorem dX8_sheet_79 : decode cX8_sheet 79 = .ok (.goto (-23), 3) := by decide +kernel
theorem dX8_sheet_82 : decode cX8_sheet 82 = .ok (.iconst 1, 1) := by decide +kernel
theorem dX8_sheet_83 : decode cX8_sheet 83 = .ok (.ireturn, 1) := by decide +kernel
set_option maxRecDepth 20000 in
theorem ggX8_lay_X8_in : GoodIn wsX8_lay wsX8_in := goodIn_r _ [8] (by decide +kernel) (by decide +kernel)
set_option maxRecDepth 20000 in
theorem gX8_lay_X8_in : GoodIn wsX8_lay (va_wsS RX8 52 yX8_in wsX8_in) := goodIn_app (goodIn_of _ (by decide +kernel)) ggX8_lay_X8_in
theorem dX8_lay_0 : decode cX8_lay 0 = .ok (.iload_n 1, 1) := by decide +kernel
theorem dX8_lay_1 : decode cX8_lay 1 = .ok (.i2l, 1) := by decide +kernel
theorem dX8_lay_2 : decode cX8_lay 2 = .ok (.lconst 0, 1) := by decide +kernel
theorem dX8_lay_3 : decode cX8_lay 3 = .ok (.ldc2_w 177, 3) := by decide +kernel
theorem dX8_lay_6 : decode cX8_lay 6 = .ok (.invokestatic 52, 3) := by decide +kernel
theorem dX8_lay_9 : decode cX8_lay 9 = .ok (.ifCond .ne 5, 3) := by decide +kernel
theorem dX8_lay_12 : decode cX8_lay 12 = .ok (.iconst (-1), 1) := by decide +kernel
theorem dX8_lay_13 : decode cX8_lay 13 = .ok (.ireturn, 1) := by decide +kernel
theorem dX8_lay_14 : decode cX8_lay 14 = .ok (.aload_n 0, 1) := by decide +kernel
theorem dX8_lay_15 : decode cX8_lay 15 = .ok (.getfield 41, 3) := by decide +kernel
theorem dX8_lay_18 : decode cX8_lay 18 = .ok (.iload_n 1, 1) := by decide +kernel
theorem dX8_lay_19 : decode cX8_lay 19 = .ok (.iaload, 1) := by decide +kernel
theorem dX8_lay_20 : decode cX8_lay 20 = .ok (.bipush (-4), 2) := by decide +kernel
theorem dX8_lay_22 : decode cX8_lay 22 = .ok (.if_icmp .ne 6, 3) := by decide +kernel
theorem dX8_lay_25 : decode cX8_lay 25 = .ok (.bipush (-11), 2) := by decide +kernel
theorem dX8_lay_27 : decode cX8_lay 27 = .ok (.ireturn, 1) := by decide +kernel
theorem dX8_lay_28 : decode cX8_lay 28 = .ok (.iload_n 2, 1) := by decide +kernel
theorem dX8_lay_29 : decode cX8_lay 29 = .ok (.i2l, 1) := by decide +kernel
theorem dX8_lay_30 : decode cX8_lay 30 = .ok (.lconst 0, 1) := by decide +kernel
theorem dX8_lay_31 : decode cX8_lay 31 = .ok (.aload_n 0, 1) := by decide +kernel
theorem dX8_lay_32 : decode cX8_lay 32 = .ok (.getfield 44, 3) := by decide +kernel
theorem dX8_lay_35 : decode cX8_lay 35 = .ok (.iload_n 1, 1) := by decide +kernel
theorem dX8_lay_36 : decode cX8_lay 36 = .ok (.iaload, 1) := by decide +kernel
theorem dX8_lay_37 : decode cX8_lay 37 = .ok (.iconst 1, 1) := by decide +kernel
theorem dX8_lay_38 : decode cX8_lay 38 = .ok (.isub, 1) := by decide +kernel
theorem dX8_lay_39 : decode cX8_lay 39 = .ok (.i2l, 1) := by decide +kernel
theorem dX8_lay_40 : decode cX8_lay 40 = .ok (.invokestatic 52, 3) := by decide +kernel
theorem dX8_lay_43 : decode cX8_lay 43 = .ok (.ifCond .ne 6, 3) := by decide +kernel
theorem dX8_lay_46 : decode cX8_lay 46 = .ok (.bipush (-12), 2) := by decide +kernel
theorem dX8_lay_48 : decode cX8_lay 48 = .ok (.ireturn, 1) := by decide +kernel
theorem dX8_lay_49 : decode cX8_lay 49 = .ok (.aload_n 0, 1) := by decide +kernel
theorem dX8_lay_50 : decode cX8_lay 50 = .ok (.getfield 47, 3) := by decide +kernel
theorem dX8_lay_53 : decode cX8_lay 53 = .ok (.bipush 40, 2) := by decide +kernel
theorem dX8_lay_55 : decode cX8_lay 55 = .ok (.iload_n 1, 1) := by decide +kernel
theorem dX8_lay_56 : decode cX8_lay 56 = .ok (.imul, 1) := by decide +kernel
theorem dX8_lay_57 : decode cX8_lay 57 = .ok (.iload_n 2, 1) := by decide +kernel
theorem dX8_lay_58 : decode cX8_lay 58 = .ok (.iadd, 1) := by decide +kernel
theorem dX8_lay_59 : decode cX8_lay 59 = .ok (.aload_n 0, 1) := by decide +kernel
theorem dX8_lay_60 : decode cX8_lay 60 = .ok (.getfield 41, 3) := by decide +kernel
theorem dX8_lay_63 : decode cX8_lay 63 = .ok (.iload_n 1, 1) := by decide +kernel
theorem dX8_lay_64 : decode cX8_lay 64 = .ok (.iaload, 1) := by decide +kernel
theorem dX8_lay_65 : decode cX8_lay 65 = .ok (.ifCond .ne 13, 3) := by decide +kernel
theorem dX8_lay_68 : decode cX8_lay 68 = .ok (.iload_n 3, 1) := by decide +kernel
theorem dX8_lay_69 : decode cX8_lay 69 = .ok (.bipush 24, 2) := by decide +kernel
theorem dX8_lay_71 : decode cX8_lay 71 = .ok (.ishl, 1) := by decide +kernel
theorem dX8_lay_72 : decode cX8_lay 72 = .ok (.bipush 24, 2) := by decide +kernel
theorem dX8_lay_74 : decode cX8_lay 74 = .ok (.ishr, 1) := by decide +kernel
theorem dX8_lay_75 : decode cX8_lay 75 = .ok (.goto 24, 3) := by decide +kernel
theorem dX8_lay_78 : decode cX8_lay 78 = .ok (.aload_n 0, 1) := by decide +kernel
theorem dX8_lay_79 : decode cX8_lay 79 = .ok (.getfield 41, 3) := by decide +kernel
theorem dX8_lay_82 : decode cX8_lay 82 = .ok (.iload_n 1, 1) := by decide +kernel
theorem dX8_lay_83 : decode cX8_lay 83 = .ok (.iaload, 1) := by decide +kernel
theorem dX8_lay_84 : decode cX8_lay 84 = .ok (.iconst 1, 1) := by decide +kernel
theorem dX8_lay_85 : decode cX8_lay 85 = .ok (.if_icmp .ne 13, 3) := by decide +kernel
theorem dX8_lay_88 : decode cX8_lay 88 = .ok (.iload_n 3, 1) := by decide +kernel
theorem dX8_lay_89 : decode cX8_lay 89 = .ok (.bipush 16, 2) := by decide +kernel
theorem dX8_lay_91 : decode cX8_lay 91 = .ok (.ishl, 1) := by decide +kernel
theorem dX8_lay_92 : decode cX8_lay 92 = .ok (.bipush 16, 2) := by decide +kernel
theorem dX8_lay_94 : decode cX8_lay 94 = .ok (.ishr, 1) := by decide +kernel
theorem dX8_lay_95 : decode cX8_lay 95 = .ok (.goto 4, 3) := by decide +kernel
theorem dX8_lay_98 : decode cX8_lay 98 = .ok (.iload_n 3, 1) := by decide +kernel
theorem dX8_lay_99 : decode cX8_lay 99 = .ok (.iastore, 1) := by decide +kernel
theorem dX8_lay_100 : decode cX8_lay 100 = .ok (.iconst 1, 1) := by decide +kernel
theorem dX8_lay_101 : decode cX8_lay 101 = .ok (.ireturn, 1) := by decide +kernel
set_option maxRecDepth 20000 in
theorem ggX8_read_X8_in : GoodIn wsX8_read wsX8_in := goodIn_r _ [11] (by decide +kernel) (by decide +kernel)
set_option maxRecDepth 20000 in
theorem gX8_read_X8_in : GoodIn wsX8_read (va_wsS RX8 52 yX8_in wsX8_in) := goodIn_app (goodIn_of _ (by decide +kernel)) ggX8_read_X8_in
set_option maxRecDepth 20000 in
theorem ggX8_read_X8_copies : GoodIn wsX8_read wsX8_copies := goodIn_r _ [15, 16, 47, 48, 49, 50, 51, 52, 53, 54, 55, 56, 57, 58, 59, 60, 61, 62, 63, 64, 65, 66, 67, 68, 69, 70, 71, 72, 73, 74, 75, 76, 77, 78] (by decide +kernel) (by decide +kernel)
set_option maxRecDepth 20000 in
theorem gX8_read_X8_copies : GoodIn wsX8_read (wsV RX8 271 RX8 yX8_copies wsX8_copies) := goodIn_app (goodIn_of _ (by decide +kernel)) ggX8_read_X8_copies
set_option maxRecDepth 20000 in
theorem ggX8_read_X8_buys : GoodIn wsX8_read wsX8_buys := goodIn_r _ [20, 16, 21, 22, 23, 10, 24, 25, 8, 9, 11, 26, 27, 28, 29, 30, 31, 32, 33, 34, 35, 36, 37, 38, 39, 40, 41, 42, 43, 44, 45, 46, 47, 48, 49, 50, 51, 52, 53, 54, 55, 56, 57, 58, 59, 60, 61, 62, 63, 64, 65, 66, 67, 68, 69, 70, 71, 72, 73, 74, 75, 76, 77, 78] (by decide +kernel) (by decide +kernel)
set_option maxRecDepth 20000 in
theorem gX8_read_X8_buys : GoodIn wsX8_read (wsV RX8 191 RX8 yX8_buys wsX8_buys) := goodIn_app (goodIn_of _ (by decide +kernel)) ggX8_read_X8_buys
theorem dX8_read_0 : decode cX8_read 0 = .ok (.iload_n 1, 1) := by decide +kernel
theorem dX8_read_1 : decode cX8_read 1 = .ok (.i2l, 1) := by decide +kernel
theorem dX8_read_2 : decode cX8_read 2 = .ok (.lconst 0, 1) := by decide +kernel
theorem dX8_read_3 : decode cX8_read 3 = .ok (.ldc2_w 177, 3) := by decide +kernel
theorem dX8_read_6 : decode cX8_read 6 = .ok (.invokestatic 52, 3) := by decide +kernel
theorem dX8_read_9 : decode cX8_read 9 = .ok (.ifCond .eq 28, 3) := by decide +kernel
theorem dX8_read_12 : decode cX8_read 12 = .ok (.iload_n 2, 1) := by decide +kernel
theorem dX8_read_13 : decode cX8_read 13 = .ok (.i2l, 1) := by decide +kernel
theorem dX8_read_14 : decode cX8_read 14 = .ok (.lconst 0, 1) := by decide +kernel
theorem dX8_read_15 : decode cX8_read 15 = .ok (.ldc2_w 166, 3) := by decide +kernel
theorem dX8_read_18 : decode cX8_read 18 = .ok (.invokestatic 52, 3) := by decide +kernel
theorem dX8_read_21 : decode cX8_read 21 = .ok (.ifCond .eq 16, 3) := by decide +kernel
theorem dX8_read_24 : decode cX8_read 24 = .ok (.iload 4, 2) := by decide +kernel
theorem dX8_read_26 : decode cX8_read 26 = .ok (.i2l, 1) := by decide +kernel
theorem dX8_read_27 : decode cX8_read 27 = .ok (.lconst 0, 1) := by decide +kernel
theorem dX8_read_28 : decode cX8_read 28 = .ok (.ldc2_w 278, 3) := by decide +kernel
theorem dX8_read_31 : decode cX8_read 31 = .ok (.invokestatic 52, 3) := by decide +kernel
theorem dX8_read_34 : decode cX8_read 34 = .ok (.ifCond .ne 5, 3) := by decide +kernel
theorem dX8_read_37 : decode cX8_read 37 = .ok (.iconst (-1), 1) := by decide +kernel
theorem dX8_read_38 : decode cX8_read 38 = .ok (.ireturn, 1) := by decide +kernel
theorem dX8_read_39 : decode cX8_read 39 = .ok (.aload_n 0, 1) := by decide +kernel
theorem dX8_read_40 : decode cX8_read 40 = .ok (.iconst 0, 1) := by decide +kernel
theorem dX8_read_41 : decode cX8_read 41 = .ok (.bipush 87, 2) := by decide +kernel
theorem dX8_read_43 : decode cX8_read 43 = .ok (.invokevirtual 271, 3) := by decide +kernel
theorem dX8_read_46 : decode cX8_read 46 = .ok (.iconst 0, 1) := by decide +kernel
theorem dX8_read_47 : decode cX8_read 47 = .ok (.istore 5, 2) := by decide +kernel
theorem dX8_read_49 : decode cX8_read 49 = .ok (.iconst 0, 1) := by decide +kernel
theorem dX8_read_50 : decode cX8_read 50 = .ok (.istore 6, 2) := by decide +kernel
theorem dX8_read_52 : decode cX8_read 52 = .ok (.iconst 0, 1) := by decide +kernel
theorem dX8_read_53 : decode cX8_read 53 = .ok (.istore 7, 2) := by decide +kernel
theorem dX8_read_55 : decode cX8_read 55 = .ok (.iload 7, 2) := by decide +kernel
theorem dX8_read_57 : decode cX8_read 57 = .ok (.iconst 2, 1) := by decide +kernel
theorem dX8_read_58 : decode cX8_read 58 = .ok (.iload 4, 2) := by decide +kernel
theorem dX8_read_60 : decode cX8_read 60 = .ok (.imul, 1) := by decide +kernel
theorem dX8_read_61 : decode cX8_read 61 = .ok (.if_icmp .ge 135, 3) := by decide +kernel
theorem dX8_read_64 : decode cX8_read 64 = .ok (.iload 5, 2) := by decide +kernel
theorem dX8_read_66 : decode cX8_read 66 = .ok (.ifCond .ne 130, 3) := by decide +kernel
theorem dX8_read_69 : decode cX8_read 69 = .ok (.aload_n 0, 1) := by decide +kernel
theorem dX8_read_70 : decode cX8_read 70 = .ok (.getfield 41, 3) := by decide +kernel
theorem dX8_read_73 : decode cX8_read 73 = .ok (.iload_n 1, 1) := by decide +kernel
theorem dX8_read_74 : decode cX8_read 74 = .ok (.iaload, 1) := by decide +kernel
theorem dX8_read_75 : decode cX8_read 75 = .ok (.bipush (-4), 2) := by decide +kernel
theorem dX8_read_77 : decode cX8_read 77 = .ok (.if_icmp .ne 7, 3) := by decide +kernel
theorem dX8_read_80 : decode cX8_read 80 = .ok (.iconst 1, 1) := by decide +kernel
theorem dX8_read_81 : decode cX8_read 81 = .ok (.goto 44, 3) := by decide +kernel
theorem dX8_read_84 : decode cX8_read 84 = .ok (.aload_n 0, 1) := by decide +kernel
theorem dX8_read_85 : decode cX8_read 85 = .ok (.getfield 41, 3) := by decide +kernel
theorem dX8_read_88 : decode cX8_read 88 = .ok (.iload_n 1, 1) := by decide +kernel
theorem dX8_read_89 : decode cX8_read 89 = .ok (.iaload, 1) := by decide +kernel
theorem dX8_read_90 : decode cX8_read 90 = .ok (.iload_n 2, 1) := by decide +kernel
theorem dX8_read_91 : decode cX8_read 91 = .ok (.if_icmp .eq 7, 3) := by decide +kernel
theorem dX8_read_94 : decode cX8_read 94 = .ok (.iconst 3, 1) := by decide +kernel
theorem dX8_read_95 : decode cX8_read 95 = .ok (.goto 30, 3) := by decide +kernel
theorem dX8_read_98 : decode cX8_read 98 = .ok (.iload_n 3, 1) := by decide +kernel
theorem dX8_read_99 : decode cX8_read 99 = .ok (.i2l, 1) := by decide +kernel
theorem dX8_read_100 : decode cX8_read 100 = .ok (.iload 7, 2) := by decide +kernel
theorem dX8_read_102 : decode cX8_read 102 = .ok (.i2l, 1) := by decide +kernel
theorem dX8_read_103 : decode cX8_read 103 = .ok (.ladd, 1) := by decide +kernel
theorem dX8_read_104 : decode cX8_read 104 = .ok (.lconst 0, 1) := by decide +kernel
theorem dX8_read_105 : decode cX8_read 105 = .ok (.aload_n 0, 1) := by decide +kernel
theorem dX8_read_106 : decode cX8_read 106 = .ok (.getfield 44, 3) := by decide +kernel
theorem dX8_read_109 : decode cX8_read 109 = .ok (.iload_n 1, 1) := by decide +kernel
theorem dX8_read_110 : decode cX8_read 110 = .ok (.iaload, 1) := by decide +kernel
theorem dX8_read_111 : decode cX8_read 111 = .ok (.iconst 1, 1) := by decide +kernel
theorem dX8_read_112 : decode cX8_read 112 = .ok (.isub, 1) := by decide +kernel
theorem dX8_read_113 : decode cX8_read 113 = .ok (.i2l, 1) := by decide +kernel
theorem dX8_read_114 : decode cX8_read 114 = .ok (.invokestatic 52, 3) := by decide +kernel
theorem dX8_read_117 : decode cX8_read 117 = .ok (.ifCond .ne 7, 3) := by decide +kernel
theorem dX8_read_120 : decode cX8_read 120 = .ok (.iconst 2, 1) := by decide +kernel
theorem dX8_read_121 : decode cX8_read 121 = .ok (.goto 4, 3) := by decide +kernel
theorem dX8_read_124 : decode cX8_read 124 = .ok (.iconst 0, 1) := by decide +kernel
theorem dX8_read_125 : decode cX8_read 125 = .ok (.istore 5, 2) := by decide +kernel
theorem dX8_read_127 : decode cX8_read 127 = .ok (.iload 5, 2) := by decide +kernel
theorem dX8_read_129 : decode cX8_read 129 = .ok (.ifCond .ne 61, 3) := by decide +kernel
theorem dX8_read_132 : decode cX8_read 132 = .ok (.iload 7, 2) := by decide +kernel
theorem dX8_read_134 : decode cX8_read 134 = .ok (.iconst 2, 1) := by decide +kernel
theorem dX8_read_135 : decode cX8_read 135 = .ok (.irem, 1) := by decide +kernel
theorem dX8_read_136 : decode cX8_read 136 = .ok (.iconst 1, 1) := by decide +kernel
theorem dX8_read_137 : decode cX8_read 137 = .ok (.if_icmp .ne 53, 3) := by decide +kernel
theorem dX8_read_140 : decode cX8_read 140 = .ok (.bipush 40, 2) := by decide +kernel
theorem dX8_read_142 : decode cX8_read 142 = .ok (.iload_n 1, 1) := by decide +kernel
theorem dX8_read_143 : decode cX8_read 143 = .ok (.imul, 1) := by decide +kernel
theorem dX8_read_144 : decode cX8_read 144 = .ok (.iload_n 3, 1) := by decide +kernel
theorem dX8_read_145 : decode cX8_read 145 = .ok (.iadd, 1) := by decide +kernel
theorem dX8_read_146 : decode cX8_read 146 = .ok (.iload 7, 2) := by decide +kernel
theorem dX8_read_148 : decode cX8_read 148 = .ok (.iadd, 1) := by decide +kernel
theorem dX8_read_149 : decode cX8_read 149 = .ok (.istore 8, 2) := by decide +kernel
theorem dX8_read_151 : decode cX8_read 151 = .ok (.aload_n 0, 1) := by decide +kernel
theorem dX8_read_152 : decode cX8_read 152 = .ok (.aload_n 0, 1) := by decide +kernel
theorem dX8_read_153 : decode cX8_read 153 = .ok (.getfield 47, 3) := by decide +kernel
theorem dX8_read_156 : decode cX8_read 156 = .ok (.iload 8, 2) := by decide +kernel
theorem dX8_read_158 : decode cX8_read 158 = .ok (.iconst 1, 1) := by decide +kernel
theorem dX8_read_159 : decode cX8_read 159 = .ok (.isub, 1) := by decide +kernel
theorem dX8_read_160 : decode cX8_read 160 = .ok (.iaload, 1) := by decide +kernel
theorem dX8_read_161 : decode cX8_read 161 = .ok (.aload_n 0, 1) := by decide +kernel
theorem dX8_read_162 : decode cX8_read 162 = .ok (.getfield 47, 3) := by decide +kernel
theorem dX8_read_165 : decode cX8_read 165 = .ok (.iload 8, 2) := by decide +kernel
theorem dX8_read_167 : decode cX8_read 167 = .ok (.iaload, 1) := by decide +kernel
theorem dX8_read_168 : decode cX8_read 168 = .ok (.invokevirtual 191, 3) := by decide +kernel
theorem dX8_read_171 : decode cX8_read 171 = .ok (.ifCond .ge 16, 3) := by decide +kernel
theorem dX8_read_174 : decode cX8_read 174 = .ok (.aload_n 0, 1) := by decide +kernel
theorem dX8_read_175 : decode cX8_read 175 = .ok (.bipush 87, 2) := by decide +kernel
theorem dX8_read_177 : decode cX8_read 177 = .ok (.iconst 0, 1) := by decide +kernel
theorem dX8_read_178 : decode cX8_read 178 = .ok (.invokevirtual 271, 3) := by decide +kernel
theorem dX8_read_181 : decode cX8_read 181 = .ok (.bipush (-20), 2) := by decide +kernel
theorem dX8_read_183 : decode cX8_read 183 = .ok (.iload 6, 2) := by decide +kernel
theorem dX8_read_185 : decode cX8_read 185 = .ok (.isub, 1) := by decide +kernel
theorem dX8_read_186 : decode cX8_read 186 = .ok (.ireturn, 1) := by decide +kernel
theorem dX8_read_187 : decode cX8_read 187 = .ok (.iinc 6 1, 3) := by decide +kernel
theorem dX8_read_190 : decode cX8_read 190 = .ok (.iinc 7 1, 3) := by decide +kernel
theorem dX8_read_193 : decode cX8_read 193 = .ok (.goto (-138), 3) := by decide +kernel
theorem dX8_read_196 : decode cX8_read 196 = .ok (.aload_n 0, 1) := by decide +kernel
theorem dX8_read_197 : decode cX8_read 197 = .ok (.iload 5, 2) := by decide +kernel
theorem dX8_read_199 : decode cX8_read 199 = .ok (.putfield 280, 3) := by decide +kernel
theorem dX8_read_202 : decode cX8_read 202 = .ok (.iload 6, 2) := by decide +kernel
theorem dX8_read_204 : decode cX8_read 204 = .ok (.ireturn, 1) := by decide +kernel
theorem dX8_torn_0 : decode cX8_torn 0 = .ok (.aload_n 0, 1) := by decide +kernel
theorem dX8_torn_1 : decode cX8_torn 1 = .ok (.getfield 280, 3) := by decide +kernel
theorem dX8_torn_4 : decode cX8_torn 4 = .ok (.ireturn, 1) := by decide +kernel
set_option maxRecDepth 20000 in
theorem ggX8_count_X8_votesOf : GoodIn wsX8_count wsX8_votesOf := goodIn_r _ [12, 13, 33, 34, 35, 36, 37, 38, 39, 40, 41, 42, 43, 44, 45, 46, 47, 48, 49, 50, 51, 52, 53, 54, 55, 56, 57, 58, 59, 60, 61, 62, 63, 64] (by decide +kernel) (by decide +kernel)
set_option maxRecDepth 20000 in
theorem gX8_count_X8_votesOf : GoodIn wsX8_count (wsV RX8 138 RX8 yX8_votesOf wsX8_votesOf) := goodIn_app (goodIn_of _ (by decide +kernel)) ggX8_count_X8_votesOf
set_option maxRecDepth 20000 in
theorem ggX8_count_X8_nobodys : GoodIn wsX8_count wsX8_nobodys := goodIn_r _ [17, 18, 19, 20, 11, 21, 1, 22, 23, 24, 25, 26, 27, 28, 29, 13, 33, 34, 35, 36, 37, 38, 39, 40, 41, 42, 43, 44, 45, 46, 47, 48, 49, 50, 51, 52, 53, 54, 55, 56, 57, 58, 59, 60, 61, 62, 63, 64] (by decide +kernel) (by decide +kernel)
set_option maxRecDepth 20000 in
theorem gX8_count_X8_nobodys : GoodIn wsX8_count (wsV RX8 156 RX8 yX8_nobodys wsX8_nobodys) := goodIn_app (goodIn_of _ (by decide +kernel)) ggX8_count_X8_nobodys
set_option maxRecDepth 20000 in
theorem ggX8_count_X8_bitsOf : GoodIn wsX8_count wsX8_bitsOf := goodIn_r _ [32] (by decide +kernel) (by decide +kernel)
set_option maxRecDepth 20000 in
theorem gX8_count_X8_bitsOf : GoodIn wsX8_count (va_wsS RX8 223 yX8_bitsOf wsX8_bitsOf) := goodIn_app (goodIn_of _ (by decide +kernel)) ggX8_count_X8_bitsOf
theorem dX8_count_0 : decode cX8_count 0 = .ok (.iconst 0, 1) := by decide +kernel
theorem dX8_count_1 : decode cX8_count 1 = .ok (.istore_n 2, 1) := by decide +kernel
theorem dX8_count_2 : decode cX8_count 2 = .ok (.iconst 0, 1) := by decide +kernel
theorem dX8_count_3 : decode cX8_count 3 = .ok (.istore_n 3, 1) := by decide +kernel
theorem dX8_count_4 : decode cX8_count 4 = .ok (.iload_n 3, 1) := by decide +kernel
theorem dX8_count_5 : decode cX8_count 5 = .ok (.aload_n 0, 1) := by decide +kernel
theorem dX8_count_6 : decode cX8_count 6 = .ok (.getfield 132, 3) := by decide +kernel
theorem dX8_count_9 : decode cX8_count 9 = .ok (.if_icmp .ge 17, 3) := by decide +kernel
theorem dX8_count_12 : decode cX8_count 12 = .ok (.iload_n 2, 1) := by decide +kernel
theorem dX8_count_13 : decode cX8_count 13 = .ok (.aload_n 0, 1) := by decide +kernel
theorem dX8_count_14 : decode cX8_count 14 = .ok (.iload_n 3, 1) := by decide +kernel
theorem dX8_count_15 : decode cX8_count 15 = .ok (.invokevirtual 138, 3) := by decide +kernel
theorem dX8_count_18 : decode cX8_count 18 = .ok (.iadd, 1) := by decide +kernel
theorem dX8_count_19 : decode cX8_count 19 = .ok (.istore_n 2, 1) := by decide +kernel
theorem dX8_count_20 : decode cX8_count 20 = .ok (.iinc 3 1, 3) := by decide +kernel
theorem dX8_count_23 : decode cX8_count 23 = .ok (.goto (-19), 3) := by decide +kernel
theorem dX8_count_26 : decode cX8_count 26 = .ok (.iload_n 1, 1) := by decide +kernel
theorem dX8_count_27 : decode cX8_count 27 = .ok (.tableswitch 115 0 5 #[37, 42, 72, 77, 100, 102], 37) := by decide +kernel
theorem dX8_count_64 : decode cX8_count 64 = .ok (.aload_n 0, 1) := by decide +kernel
theorem dX8_count_65 : decode cX8_count 65 = .ok (.getfield 135, 3) := by decide +kernel
theorem dX8_count_68 : decode cX8_count 68 = .ok (.ireturn, 1) := by decide +kernel
theorem dX8_count_69 : decode cX8_count 69 = .ok (.aload_n 0, 1) := by decide +kernel
theorem dX8_count_70 : decode cX8_count 70 = .ok (.getfield 37, 3) := by decide +kernel
theorem dX8_count_73 : decode cX8_count 73 = .ok (.iconst 0, 1) := by decide +kernel
theorem dX8_count_74 : decode cX8_count 74 = .ok (.baload, 1) := by decide +kernel
theorem dX8_count_75 : decode cX8_count 75 = .ok (.ifCond .eq 7, 3) := by decide +kernel
theorem dX8_count_78 : decode cX8_count 78 = .ok (.iconst 1, 1) := by decide +kernel
theorem dX8_count_79 : decode cX8_count 79 = .ok (.goto 4, 3) := by decide +kernel
theorem dX8_count_82 : decode cX8_count 82 = .ok (.iconst 0, 1) := by decide +kernel
theorem dX8_count_83 : decode cX8_count 83 = .ok (.aload_n 0, 1) := by decide +kernel
theorem dX8_count_84 : decode cX8_count 84 = .ok (.getfield 37, 3) := by decide +kernel
theorem dX8_count_87 : decode cX8_count 87 = .ok (.iconst 1, 1) := by decide +kernel
theorem dX8_count_88 : decode cX8_count 88 = .ok (.baload, 1) := by decide +kernel
theorem dX8_count_89 : decode cX8_count 89 = .ok (.ifCond .eq 7, 3) := by decide +kernel
theorem dX8_count_92 : decode cX8_count 92 = .ok (.iconst 1, 1) := by decide +kernel
theorem dX8_count_93 : decode cX8_count 93 = .ok (.goto 4, 3) := by decide +kernel
theorem dX8_count_96 : decode cX8_count 96 = .ok (.iconst 0, 1) := by decide +kernel
theorem dX8_count_97 : decode cX8_count 97 = .ok (.iadd, 1) := by decide +kernel
theorem dX8_count_98 : decode cX8_count 98 = .ok (.ireturn, 1) := by decide +kernel
theorem dX8_count_99 : decode cX8_count 99 = .ok (.aload_n 0, 1) := by decide +kernel
theorem dX8_count_100 : decode cX8_count 100 = .ok (.getfield 56, 3) := by decide +kernel
theorem dX8_count_103 : decode cX8_count 103 = .ok (.ireturn, 1) := by decide +kernel
theorem dX8_count_104 : decode cX8_count 104 = .ok (.aload_n 0, 1) := by decide +kernel
theorem dX8_count_105 : decode cX8_count 105 = .ok (.getfield 41, 3) := by decide +kernel
theorem dX8_count_108 : decode cX8_count 108 = .ok (.iconst 0, 1) := by decide +kernel
theorem dX8_count_109 : decode cX8_count 109 = .ok (.iaload, 1) := by decide +kernel
theorem dX8_count_110 : decode cX8_count 110 = .ok (.bipush (-4), 2) := by decide +kernel
theorem dX8_count_112 : decode cX8_count 112 = .ok (.if_icmp .ne 8, 3) := by decide +kernel
theorem dX8_count_115 : decode cX8_count 115 = .ok (.bipush (-4), 2) := by decide +kernel
theorem dX8_count_117 : decode cX8_count 117 = .ok (.goto 9, 3) := by decide +kernel
theorem dX8_count_120 : decode cX8_count 120 = .ok (.aload_n 0, 1) := by decide +kernel
theorem dX8_count_121 : decode cX8_count 121 = .ok (.getfield 44, 3) := by decide +kernel
theorem dX8_count_124 : decode cX8_count 124 = .ok (.iconst 0, 1) := by decide +kernel
theorem dX8_count_125 : decode cX8_count 125 = .ok (.iaload, 1) := by decide +kernel
theorem dX8_count_126 : decode cX8_count 126 = .ok (.ireturn, 1) := by decide +kernel
theorem dX8_count_127 : decode cX8_count 127 = .ok (.iload_n 2, 1) := by decide +kernel
theorem dX8_count_128 : decode cX8_count 128 = .ok (.ireturn, 1) := by decide +kernel
theorem dX8_count_129 : decode cX8_count 129 = .ok (.aload_n 0, 1) := by decide +kernel
theorem dX8_count_130 : decode cX8_count 130 = .ok (.getfield 129, 3) := by decide +kernel
theorem dX8_count_133 : decode cX8_count 133 = .ok (.aload_n 0, 1) := by decide +kernel
theorem dX8_count_134 : decode cX8_count 134 = .ok (.invokevirtual 156, 3) := by decide +kernel
theorem dX8_count_137 : decode cX8_count 137 = .ok (.invokestatic 223, 3) := by decide +kernel
theorem dX8_count_140 : decode cX8_count 140 = .ok (.iadd, 1) := by decide +kernel
theorem dX8_count_141 : decode cX8_count 141 = .ok (.ireturn, 1) := by decide +kernel
theorem dX8_count_142 : decode cX8_count 142 = .ok (.iconst (-1), 1) := by decide +kernel
theorem dX8_count_143 : decode cX8_count 143 = .ok (.ireturn, 1) := by decide +kernel
