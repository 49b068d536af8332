set_option maxRecDepth 20000 in
theorem ggX9_init_X9_lives : GoodIn wsX9_init wsX9_lives := goodIn_r _ [34, 11, 35, 12, 17, 68, 69, 70, 71, 72, 73, 74, 75, 76, 77, 78, 79, 80, 81, 82, 83, 84, 85, 86, 87, 88, 89, 90, 91, 92, 93, 94, 95, 96, 97, 98, 99, 100, 101, 102, 103, 104, 105] (by decide +kernel) (by decide +kernel)
set_option maxRecDepth 20000 in
theorem gX9_init_X9_lives : GoodIn wsX9_init (wsV RX9 80 RX9 yX9_lives wsX9_lives) := goodIn_app (goodIn_of _ (by decide +kernel)) ggX9_init_X9_lives
set_option maxRecDepth 20000 in
theorem ggX9_init_X9_stands : GoodIn wsX9_init wsX9_stands := goodIn_r _ [39, 13, 40, 14, 68, 69, 70, 71, 72, 73, 74, 75, 76, 77, 78, 79, 80, 81, 82, 83, 84, 85, 86, 87, 88, 89, 90, 91, 92, 93, 94, 95, 96, 97, 98, 99, 100, 101, 102, 103, 104, 105] (by decide +kernel) (by decide +kernel)
set_option maxRecDepth 20000 in
theorem gX9_init_X9_stands : GoodIn wsX9_init (wsV RX9 84 RX9 yX9_stands wsX9_stands) := goodIn_app (goodIn_of _ (by decide +kernel)) ggX9_init_X9_stands
set_option maxRecDepth 20000 in
theorem ggX9_init_X9_grows : GoodIn wsX9_init wsX9_grows := goodIn_r _ [44, 15, 45, 16, 68, 69, 70, 71, 72, 73, 74, 75, 76, 77, 78, 79, 80, 81, 82, 83, 84, 85, 86, 87, 88, 89, 90, 91, 92, 93, 94, 95, 96, 97, 98, 99, 100, 101, 102, 103, 104, 105] (by decide +kernel) (by decide +kernel)
set_option maxRecDepth 20000 in
theorem gX9_init_X9_grows : GoodIn wsX9_init (wsV RX9 88 RX9 yX9_grows wsX9_grows) := goodIn_app (goodIn_of _ (by decide +kernel)) ggX9_init_X9_grows
set_option maxRecDepth 20000 in
theorem ggX9_init_X9_settles : GoodIn wsX9_init wsX9_settles := goodIn_r _ [49, 35, 29, 40, 50, 45, 51, 5, 11, 6, 12, 9, 15, 10, 16, 7, 13, 8, 14, 68, 69, 70, 71, 72, 73, 74, 75, 76, 77, 78, 79, 80, 81, 82, 83, 84, 85, 86, 87, 88, 89, 90, 91, 92, 93, 94, 95, 96, 97, 98, 99, 100, 101, 102, 103, 104, 105] (by decide +kernel) (by decide +kernel)
set_option maxRecDepth 20000 in
theorem gX9_init_X9_settles : GoodIn wsX9_init (wsV RX9 91 RX9 yX9_settles wsX9_settles) := goodIn_app (goodIn_of _ (by decide +kernel)) ggX9_init_X9_settles
set_option maxRecDepth 20000 in
theorem ggX9_init_X9_evenly : GoodIn wsX9_init wsX9_evenly := goodIn_r _ [55, 50, 56, 57, 58, 33, 59, 60, 61, 62, 63, 7, 8, 64, 65, 66, 67, 17, 68, 69, 70, 71, 72, 73, 74, 75, 76, 77, 78, 79, 80, 81, 82, 83, 84, 85, 86, 87, 88, 89, 90, 91, 92, 93, 94, 95, 96, 97, 98, 99, 100, 101, 102, 103, 104, 105] (by decide +kernel) (by decide +kernel)
set_option maxRecDepth 20000 in
theorem gX9_init_X9_evenly : GoodIn wsX9_init (wsV RX9 98 RX9 yX9_evenly wsX9_evenly) := goodIn_app (goodIn_of _ (by decide +kernel)) ggX9_init_X9_evenly
theorem dX9_init_0 : decode cX9_init 0 = .ok (.aload_n 0, 1) := by decide +kernel
theorem dX9_init_1 : decode cX9_init 1 = .ok (.invokespecial 1, 3) := by decide +kernel
theorem dX9_init_4 : decode cX9_init 4 = .ok (.aload_n 0, 1) := by decide +kernel
theorem dX9_init_5 : decode cX9_init 5 = .ok (.bipush 6, 2) := by decide +kernel
theorem dX9_init_7 : decode cX9_init 7 = .ok (.newarray .int, 2) := by decide +kernel
theorem dX9_init_9 : decode cX9_init 9 = .ok (.putfield 7, 3) := by decide +kernel
theorem dX9_init_12 : decode cX9_init 12 = .ok (.aload_n 0, 1) := by decide +kernel
theorem dX9_init_13 : decode cX9_init 13 = .ok (.bipush 6, 2) := by decide +kernel
theorem dX9_init_15 : decode cX9_init 15 = .ok (.newarray .int, 2) := by decide +kernel
theorem dX9_init_17 : decode cX9_init 17 = .ok (.putfield 13, 3) := by decide +kernel
theorem dX9_init_20 : decode cX9_init 20 = .ok (.aload_n 0, 1) := by decide +kernel
theorem dX9_init_21 : decode cX9_init 21 = .ok (.bipush 9, 2) := by decide +kernel
theorem dX9_init_23 : decode cX9_init 23 = .ok (.newarray .int, 2) := by decide +kernel
theorem dX9_init_25 : decode cX9_init 25 = .ok (.putfield 16, 3) := by decide +kernel
theorem dX9_init_28 : decode cX9_init 28 = .ok (.aload_n 0, 1) := by decide +kernel
theorem dX9_init_29 : decode cX9_init 29 = .ok (.bipush 9, 2) := by decide +kernel
theorem dX9_init_31 : decode cX9_init 31 = .ok (.newarray .int, 2) := by decide +kernel
theorem dX9_init_33 : decode cX9_init 33 = .ok (.putfield 19, 3) := by decide +kernel
theorem dX9_init_36 : decode cX9_init 36 = .ok (.aload_n 0, 1) := by decide +kernel
theorem dX9_init_37 : decode cX9_init 37 = .ok (.bipush 6, 2) := by decide +kernel
theorem dX9_init_39 : decode cX9_init 39 = .ok (.newarray .int, 2) := by decide +kernel
theorem dX9_init_41 : decode cX9_init 41 = .ok (.putfield 22, 3) := by decide +kernel
theorem dX9_init_44 : decode cX9_init 44 = .ok (.aload_n 0, 1) := by decide +kernel
theorem dX9_init_45 : decode cX9_init 45 = .ok (.bipush 6, 2) := by decide +kernel
theorem dX9_init_47 : decode cX9_init 47 = .ok (.newarray .int, 2) := by decide +kernel
theorem dX9_init_49 : decode cX9_init 49 = .ok (.putfield 25, 3) := by decide +kernel
theorem dX9_init_52 : decode cX9_init 52 = .ok (.aload_n 0, 1) := by decide +kernel
theorem dX9_init_53 : decode cX9_init 53 = .ok (.bipush 6, 2) := by decide +kernel
theorem dX9_init_55 : decode cX9_init 55 = .ok (.newarray .int, 2) := by decide +kernel
theorem dX9_init_57 : decode cX9_init 57 = .ok (.putfield 28, 3) := by decide +kernel
theorem dX9_init_60 : decode cX9_init 60 = .ok (.aload_n 0, 1) := by decide +kernel
theorem dX9_init_61 : decode cX9_init 61 = .ok (.bipush 6, 2) := by decide +kernel
theorem dX9_init_63 : decode cX9_init 63 = .ok (.newarray .int, 2) := by decide +kernel
theorem dX9_init_65 : decode cX9_init 65 = .ok (.putfield 31, 3) := by decide +kernel
theorem dX9_init_68 : decode cX9_init 68 = .ok (.aload_n 0, 1) := by decide +kernel
theorem dX9_init_69 : decode cX9_init 69 = .ok (.bipush 9, 2) := by decide +kernel
theorem dX9_init_71 : decode cX9_init 71 = .ok (.newarray .int, 2) := by decide +kernel
theorem dX9_init_73 : decode cX9_init 73 = .ok (.putfield 34, 3) := by decide +kernel
theorem dX9_init_76 : decode cX9_init 76 = .ok (.aload_n 0, 1) := by decide +kernel
theorem dX9_init_77 : decode cX9_init 77 = .ok (.bipush 9, 2) := by decide +kernel
theorem dX9_init_79 : decode cX9_init 79 = .ok (.newarray .int, 2) := by decide +kernel
theorem dX9_init_81 : decode cX9_init 81 = .ok (.putfield 37, 3) := by decide +kernel
theorem dX9_init_84 : decode cX9_init 84 = .ok (.aload_n 0, 1) := by decide +kernel
theorem dX9_init_85 : decode cX9_init 85 = .ok (.bipush 6, 2) := by decide +kernel
theorem dX9_init_87 : decode cX9_init 87 = .ok (.newarray .int, 2) := by decide +kernel
theorem dX9_init_89 : decode cX9_init 89 = .ok (.putfield 40, 3) := by decide +kernel
theorem dX9_init_92 : decode cX9_init 92 = .ok (.aload_n 0, 1) := by decide +kernel
theorem dX9_init_93 : decode cX9_init 93 = .ok (.bipush 6, 2) := by decide +kernel
theorem dX9_init_95 : decode cX9_init 95 = .ok (.newarray .int, 2) := by decide +kernel
theorem dX9_init_97 : decode cX9_init 97 = .ok (.putfield 43, 3) := by decide +kernel
theorem dX9_init_100 : decode cX9_init 100 = .ok (.aload_n 0, 1) := by decide +kernel
theorem dX9_init_101 : decode cX9_init 101 = .ok (.sipush 420, 3) := by decide +kernel
theorem dX9_init_104 : decode cX9_init 104 = .ok (.newarray .int, 2) := by decide +kernel
theorem dX9_init_106 : decode cX9_init 106 = .ok (.putfield 46, 3) := by decide +kernel
theorem dX9_init_109 : decode cX9_init 109 = .ok (.aload_n 0, 1) := by decide +kernel
theorem dX9_init_110 : decode cX9_init 110 = .ok (.sipush 200, 3) := by decide +kernel
theorem dX9_init_113 : decode cX9_init 113 = .ok (.newarray .byte, 2) := by decide +kernel
theorem dX9_init_115 : decode cX9_init 115 = .ok (.putfield 49, 3) := by decide +kernel
theorem dX9_init_118 : decode cX9_init 118 = .ok (.aload_n 0, 1) := by decide +kernel
theorem dX9_init_119 : decode cX9_init 119 = .ok (.bipush 6, 2) := by decide +kernel
theorem dX9_init_121 : decode cX9_init 121 = .ok (.newarray .int, 2) := by decide +kernel
theorem dX9_init_123 : decode cX9_init 123 = .ok (.putfield 53, 3) := by decide +kernel
theorem dX9_init_126 : decode cX9_init 126 = .ok (.aload_n 0, 1) := by decide +kernel
theorem dX9_init_127 : decode cX9_init 127 = .ok (.bipush 6, 2) := by decide +kernel
theorem dX9_init_129 : decode cX9_init 129 = .ok (.newarray .int, 2) := by decide +kernel
theorem dX9_init_131 : decode cX9_init 131 = .ok (.putfield 56, 3) := by decide +kernel
theorem dX9_init_134 : decode cX9_init 134 = .ok (.aload_n 0, 1) := by decide +kernel
theorem dX9_init_135 : decode cX9_init 135 = .ok (.bipush 6, 2) := by decide +kernel
theorem dX9_init_137 : decode cX9_init 137 = .ok (.newarray .int, 2) := by decide +kernel
theorem dX9_init_139 : decode cX9_init 139 = .ok (.putfield 59, 3) := by decide +kernel
theorem dX9_init_142 : decode cX9_init 142 = .ok (.aload_n 0, 1) := by decide +kernel
theorem dX9_init_143 : decode cX9_init 143 = .ok (.bipush 9, 2) := by decide +kernel
theorem dX9_init_145 : decode cX9_init 145 = .ok (.newarray .int, 2) := by decide +kernel
theorem dX9_init_147 : decode cX9_init 147 = .ok (.putfield 62, 3) := by decide +kernel
theorem dX9_init_150 : decode cX9_init 150 = .ok (.aload_n 0, 1) := by decide +kernel
theorem dX9_init_151 : decode cX9_init 151 = .ok (.bipush 9, 2) := by decide +kernel
theorem dX9_init_153 : decode cX9_init 153 = .ok (.newarray .int, 2) := by decide +kernel
theorem dX9_init_155 : decode cX9_init 155 = .ok (.putfield 65, 3) := by decide +kernel
theorem dX9_init_158 : decode cX9_init 158 = .ok (.aload_n 0, 1) := by decide +kernel
theorem dX9_init_159 : decode cX9_init 159 = .ok (.iconst 4, 1) := by decide +kernel
theorem dX9_init_160 : decode cX9_init 160 = .ok (.newarray .int, 2) := by decide +kernel
theorem dX9_init_162 : decode cX9_init 162 = .ok (.putfield 68, 3) := by decide +kernel
theorem dX9_init_165 : decode cX9_init 165 = .ok (.aload_n 0, 1) := by decide +kernel
theorem dX9_init_166 : decode cX9_init 166 = .ok (.iconst 4, 1) := by decide +kernel
theorem dX9_init_167 : decode cX9_init 167 = .ok (.newarray .int, 2) := by decide +kernel
theorem dX9_init_169 : decode cX9_init 169 = .ok (.putfield 71, 3) := by decide +kernel
theorem dX9_init_172 : decode cX9_init 172 = .ok (.aload_n 0, 1) := by decide +kernel
theorem dX9_init_173 : decode cX9_init 173 = .ok (.iconst 4, 1) := by decide +kernel
theorem dX9_init_174 : decode cX9_init 174 = .ok (.newarray .int, 2) := by decide +kernel
theorem dX9_init_176 : decode cX9_init 176 = .ok (.putfield 74, 3) := by decide +kernel
theorem dX9_init_179 : decode cX9_init 179 = .ok (.aload_n 0, 1) := by decide +kernel
theorem dX9_init_180 : decode cX9_init 180 = .ok (.bipush 6, 2) := by decide +kernel
theorem dX9_init_182 : decode cX9_init 182 = .ok (.newarray .int, 2) := by decide +kernel
theorem dX9_init_184 : decode cX9_init 184 = .ok (.putfield 77, 3) := by decide +kernel
theorem dX9_init_187 : decode cX9_init 187 = .ok (.aload_n 0, 1) := by decide +kernel
theorem dX9_init_188 : decode cX9_init 188 = .ok (.iconst 0, 1) := by decide +kernel
theorem dX9_init_189 : decode cX9_init 189 = .ok (.iconst 0, 1) := by decide +kernel
theorem dX9_init_190 : decode cX9_init 190 = .ok (.iconst 5, 1) := by decide +kernel
theorem dX9_init_191 : decode cX9_init 191 = .ok (.bipush 20, 2) := by decide +kernel
theorem dX9_init_193 : decode cX9_init 193 = .ok (.invokevirtual 80, 3) := by decide +kernel
theorem dX9_init_196 : decode cX9_init 196 = .ok (.aload_n 0, 1) := by decide +kernel
theorem dX9_init_197 : decode cX9_init 197 = .ok (.iconst 0, 1) := by decide +kernel
theorem dX9_init_198 : decode cX9_init 198 = .ok (.iconst 1, 1) := by decide +kernel
theorem dX9_init_199 : decode cX9_init 199 = .ok (.bipush 8, 2) := by decide +kernel
theorem dX9_init_201 : decode cX9_init 201 = .ok (.bipush 12, 2) := by decide +kernel
theorem dX9_init_203 : decode cX9_init 203 = .ok (.invokevirtual 80, 3) := by decide +kernel
theorem dX9_init_206 : decode cX9_init 206 = .ok (.aload_n 0, 1) := by decide +kernel
theorem dX9_init_207 : decode cX9_init 207 = .ok (.iconst 0, 1) := by decide +kernel
theorem dX9_init_208 : decode cX9_init 208 = .ok (.iconst 2, 1) := by decide +kernel
theorem dX9_init_209 : decode cX9_init 209 = .ok (.iconst 4, 1) := by decide +kernel
theorem dX9_init_210 : decode cX9_init 210 = .ok (.bipush 9, 2) := by decide +kernel
theorem dX9_init_212 : decode cX9_init 212 = .ok (.invokevirtual 80, 3) := by decide +kernel
theorem dX9_init_215 : decode cX9_init 215 = .ok (.aload_n 0, 1) := by decide +kernel
theorem dX9_init_216 : decode cX9_init 216 = .ok (.iconst 0, 1) := by decide +kernel
theorem dX9_init_217 : decode cX9_init 217 = .ok (.iconst 3, 1) := by decide +kernel
theorem dX9_init_218 : decode cX9_init 218 = .ok (.iconst 3, 1) := by decide +kernel
theorem dX9_init_219 : decode cX9_init 219 = .ok (.bipush 15, 2) := by decide +kernel
theorem dX9_init_221 : decode cX9_init 221 = .ok (.invokevirtual 80, 3) := by decide +kernel
theorem dX9_init_224 : decode cX9_init 224 = .ok (.aload_n 0, 1) := by decide +kernel
theorem dX9_init_225 : decode cX9_init 225 = .ok (.iconst 0, 1) := by decide +kernel
theorem dX9_init_226 : decode cX9_init 226 = .ok (.iconst 4, 1) := by decide +kernel
theorem dX9_init_227 : decode cX9_init 227 = .ok (.bipush 6, 2) := by decide +kernel
theorem dX9_init_229 : decode cX9_init 229 = .ok (.bipush 30, 2) := by decide +kernel
theorem dX9_init_231 : decode cX9_init 231 = .ok (.invokevirtual 80, 3) := by decide +kernel
theorem dX9_init_234 : decode cX9_init 234 = .ok (.aload_n 0, 1) := by decide +kernel
theorem dX9_init_235 : decode cX9_init 235 = .ok (.iconst 0, 1) := by decide +kernel
theorem dX9_init_236 : decode cX9_init 236 = .ok (.iconst 1, 1) := by decide +kernel
theorem dX9_init_237 : decode cX9_init 237 = .ok (.invokevirtual 84, 3) := by decide +kernel
theorem dX9_init_240 : decode cX9_init 240 = .ok (.aload_n 0, 1) := by decide +kernel
theorem dX9_init_241 : decode cX9_init 241 = .ok (.iconst 1, 1) := by decide +kernel
theorem dX9_init_242 : decode cX9_init 242 = .ok (.iconst 2, 1) := by decide +kernel
theorem dX9_init_243 : decode cX9_init 243 = .ok (.invokevirtual 84, 3) := by decide +kernel
theorem dX9_init_246 : decode cX9_init 246 = .ok (.aload_n 0, 1) := by decide +kernel
theorem dX9_init_247 : decode cX9_init 247 = .ok (.iconst 2, 1) := by decide +kernel
theorem dX9_init_248 : decode cX9_init 248 = .ok (.iconst 3, 1) := by decide +kernel
theorem dX9_init_249 : decode cX9_init 249 = .ok (.invokevirtual 84, 3) := by decide +kernel
theorem dX9_init_252 : decode cX9_init 252 = .ok (.aload_n 0, 1) := by decide +kernel
theorem dX9_init_253 : decode cX9_init 253 = .ok (.iconst 3, 1) := by decide +kernel
theorem dX9_init_254 : decode cX9_init 254 = .ok (.iconst 0, 1) := by decide +kernel
theorem dX9_init_255 : decode cX9_init 255 = .ok (.invokevirtual 84, 3) := by decide +kernel
theorem dX9_init_258 : decode cX9_init 258 = .ok (.aload_n 0, 1) := by decide +kernel
theorem dX9_init_259 : decode cX9_init 259 = .ok (.iconst 0, 1) := by decide +kernel
theorem dX9_init_260 : decode cX9_init 260 = .ok (.iconst 4, 1) := by decide +kernel
theorem dX9_init_261 : decode cX9_init 261 = .ok (.invokevirtual 84, 3) := by decide +kernel
theorem dX9_init_264 : decode cX9_init 264 = .ok (.aload_n 0, 1) := by decide +kernel
theorem dX9_init_265 : decode cX9_init 265 = .ok (.iconst 4, 1) := by decide +kernel
theorem dX9_init_266 : decode cX9_init 266 = .ok (.iconst 2, 1) := by decide +kernel
theorem dX9_init_267 : decode cX9_init 267 = .ok (.invokevirtual 84, 3) := by decide +kernel
theorem dX9_init_270 : decode cX9_init 270 = .ok (.aload_n 0, 1) := by decide +kernel
theorem dX9_init_271 : decode cX9_init 271 = .ok (.iconst 0, 1) := by decide +kernel
theorem dX9_init_272 : decode cX9_init 272 = .ok (.bipush 22, 2) := by decide +kernel
theorem dX9_init_274 : decode cX9_init 274 = .ok (.invokevirtual 88, 3) := by decide +kernel
theorem dX9_init_277 : decode cX9_init 277 = .ok (.aload_n 0, 1) := by decide +kernel
theorem dX9_init_278 : decode cX9_init 278 = .ok (.iconst 1, 1) := by decide +kernel
theorem dX9_init_279 : decode cX9_init 279 = .ok (.bipush 18, 2) := by decide +kernel
theorem dX9_init_281 : decode cX9_init 281 = .ok (.invokevirtual 88, 3) := by decide +kernel
theorem dX9_init_284 : decode cX9_init 284 = .ok (.aload_n 0, 1) := by decide +kernel
theorem dX9_init_285 : decode cX9_init 285 = .ok (.iconst 4, 1) := by decide +kernel
theorem dX9_init_286 : decode cX9_init 286 = .ok (.bipush 21, 2) := by decide +kernel
theorem dX9_init_288 : decode cX9_init 288 = .ok (.invokevirtual 88, 3) := by decide +kernel
theorem dX9_init_291 : decode cX9_init 291 = .ok (.aload_n 0, 1) := by decide +kernel
theorem dX9_init_292 : decode cX9_init 292 = .ok (.invokevirtual 91, 3) := by decide +kernel
theorem dX9_init_295 : decode cX9_init 295 = .ok (.iconst 0, 1) := by decide +kernel
theorem dX9_init_296 : decode cX9_init 296 = .ok (.istore_n 1, 1) := by decide +kernel
theorem dX9_init_297 : decode cX9_init 297 = .ok (.iload_n 1, 1) := by decide +kernel
theorem dX9_init_298 : decode cX9_init 298 = .ok (.aload_n 0, 1) := by decide +kernel
theorem dX9_init_299 : decode cX9_init 299 = .ok (.getfield 94, 3) := by decide +kernel
theorem dX9_init_302 : decode cX9_init 302 = .ok (.if_icmp .ge 21, 3) := by decide +kernel
theorem dX9_init_305 : decode cX9_init 305 = .ok (.aload_n 0, 1) := by decide +kernel
theorem dX9_init_306 : decode cX9_init 306 = .ok (.iconst 0, 1) := by decide +kernel
theorem dX9_init_307 : decode cX9_init 307 = .ok (.iload_n 1, 1) := by decide +kernel
theorem dX9_init_308 : decode cX9_init 308 = .ok (.aload_n 0, 1) := by decide +kernel
theorem dX9_init_309 : decode cX9_init 309 = .ok (.getfield 13, 3) := by decide +kernel
theorem dX9_init_312 : decode cX9_init 312 = .ok (.iload_n 1, 1) := by decide +kernel
theorem dX9_init_313 : decode cX9_init 313 = .ok (.iaload, 1) := by decide +kernel
theorem dX9_init_314 : decode cX9_init 314 = .ok (.invokevirtual 98, 3) := by decide +kernel
theorem dX9_init_317 : decode cX9_init 317 = .ok (.iinc 1 1, 3) := by decide +kernel
theorem dX9_init_320 : decode cX9_init 320 = .ok (.goto (-23), 3) := by decide +kernel
theorem dX9_init_323 : decode cX9_init 323 = .ok (.return_, 1) := by decide +kernel
theorem dX9_in_0 : decode cX9_in 0 = .ok (.lload_n 0, 1) := by decide +kernel
theorem dX9_in_1 : decode cX9_in 1 = .ok (.lload_n 2, 1) := by decide +kernel
theorem dX9_in_2 : decode cX9_in 2 = .ok (.lcmp, 1) := by decide +kernel
theorem dX9_in_3 : decode cX9_in 3 = .ok (.ifCond .lt 14, 3) := by decide +kernel
theorem dX9_in_6 : decode cX9_in 6 = .ok (.lload_n 0, 1) := by decide +kernel
theorem dX9_in_7 : decode cX9_in 7 = .ok (.lload 4, 2) := by decide +kernel
theorem dX9_in_9 : decode cX9_in 9 = .ok (.lcmp, 1) := by decide +kernel
theorem dX9_in_10 : decode cX9_in 10 = .ok (.ifCond .gt 7, 3) := by decide +kernel
theorem dX9_in_13 : decode cX9_in 13 = .ok (.iconst 1, 1) := by decide +kernel
theorem dX9_in_14 : decode cX9_in 14 = .ok (.goto 4, 3) := by decide +kernel
theorem dX9_in_17 : decode cX9_in 17 = .ok (.iconst 0, 1) := by decide +kernel
theorem dX9_in_18 : decode cX9_in 18 = .ok (.ireturn, 1) := by decide +kernel
theorem dX9_has_0 : decode cX9_has 0 = .ok (.iload_n 0, 1) := by decide +kernel
theorem dX9_has_1 : decode cX9_has 1 = .ok (.iload_n 1, 1) := by decide +kernel
theorem dX9_has_2 : decode cX9_has 2 = .ok (.ishr, 1) := by decide +kernel
theorem dX9_has_3 : decode cX9_has 3 = .ok (.iconst 1, 1) := by decide +kernel
theorem dX9_has_4 : decode cX9_has 4 = .ok (.iand, 1) := by decide +kernel
theorem dX9_has_5 : decode cX9_has 5 = .ok (.iconst 1, 1) := by decide +kernel
theorem dX9_has_6 : decode cX9_has 6 = .ok (.if_icmp .ne 7, 3) := by decide +kernel
theorem dX9_has_9 : decode cX9_has 9 = .ok (.iconst 1, 1) := by decide +kernel
theorem dX9_has_10 : decode cX9_has 10 = .ok (.goto 4, 3) := by decide +kernel
theorem dX9_has_13 : decode cX9_has 13 = .ok (.iconst 0, 1) := by decide +kernel
theorem dX9_has_14 : decode cX9_has 14 = .ok (.ireturn, 1) := by decide +kernel
theorem dX9_larger_0 : decode cX9_larger 0 = .ok (.iload_n 0, 1) := by decide +kernel
theorem dX9_larger_1 : decode cX9_larger 1 = .ok (.iload_n 1, 1) := by decide +kernel
theorem dX9_larger_2 : decode cX9_larger 2 = .ok (.if_icmp .ge 7, 3) := by decide +kernel
theorem dX9_larger_5 : decode cX9_larger 5 = .ok (.iload_n 1, 1) := by decide +kernel
theorem dX9_larger_6 : decode cX9_larger 6 = .ok (.goto 4, 3) := by decide +kernel
theorem dX9_larger_9 : decode cX9_larger 9 = .ok (.iload_n 0, 1) := by decide +kernel
theorem dX9_larger_10 : decode cX9_larger 10 = .ok (.ireturn, 1) := by decide +kernel
theorem dX9_lives_0 : decode cX9_lives 0 = .ok (.aload_n 0, 1) := by decide +kernel
theorem dX9_lives_1 : decode cX9_lives 1 = .ok (.getfield 28, 3) := by decide +kernel
theorem dX9_lives_4 : decode cX9_lives 4 = .ok (.aload_n 0, 1) := by decide +kernel
theorem dX9_lives_5 : decode cX9_lives 5 = .ok (.getfield 102, 3) := by decide +kernel
theorem dX9_lives_8 : decode cX9_lives 8 = .ok (.iload_n 2, 1) := by decide +kernel
theorem dX9_lives_9 : decode cX9_lives 9 = .ok (.iastore, 1) := by decide +kernel
theorem dX9_lives_10 : decode cX9_lives 10 = .ok (.aload_n 0, 1) := by decide +kernel
theorem dX9_lives_11 : decode cX9_lives 11 = .ok (.getfield 31, 3) := by decide +kernel
theorem dX9_lives_14 : decode cX9_lives 14 = .ok (.aload_n 0, 1) := by decide +kernel
theorem dX9_lives_15 : decode cX9_lives 15 = .ok (.getfield 102, 3) := by decide +kernel
theorem dX9_lives_18 : decode cX9_lives 18 = .ok (.iload_n 3, 1) := by decide +kernel
theorem dX9_lives_19 : decode cX9_lives 19 = .ok (.iastore, 1) := by decide +kernel
theorem dX9_lives_20 : decode cX9_lives 20 = .ok (.aload_n 0, 1) := by decide +kernel
theorem dX9_lives_21 : decode cX9_lives 21 = .ok (.getfield 46, 3) := by decide +kernel
theorem dX9_lives_24 : decode cX9_lives 24 = .ok (.iload_n 1, 1) := by decide +kernel
theorem dX9_lives_25 : decode cX9_lives 25 = .ok (.aload_n 0, 1) := by decide +kernel
theorem dX9_lives_26 : decode cX9_lives 26 = .ok (.getfield 102, 3) := by decide +kernel
theorem dX9_lives_29 : decode cX9_lives 29 = .ok (.iadd, 1) := by decide +kernel
theorem dX9_lives_30 : decode cX9_lives 30 = .ok (.iload 4, 2) := by decide +kernel
theorem dX9_lives_32 : decode cX9_lives 32 = .ok (.iastore, 1) := by decide +kernel
theorem dX9_lives_33 : decode cX9_lives 33 = .ok (.aload_n 0, 1) := by decide +kernel
theorem dX9_lives_34 : decode cX9_lives 34 = .ok (.dup, 1) := by decide +kernel
theorem dX9_lives_35 : decode cX9_lives 35 = .ok (.getfield 102, 3) := by decide +kernel
theorem dX9_lives_38 : decode cX9_lives 38 = .ok (.iconst 1, 1) := by decide +kernel
theorem dX9_lives_39 : decode cX9_lives 39 = .ok (.iadd, 1) := by decide +kernel
theorem dX9_lives_40 : decode cX9_lives 40 = .ok (.putfield 102, 3) := by decide +kernel
theorem dX9_lives_43 : decode cX9_lives 43 = .ok (.return_, 1) := by decide +kernel
theorem dX9_stands_0 : decode cX9_stands 0 = .ok (.aload_n 0, 1) := by decide +kernel
theorem dX9_stands_1 : decode cX9_stands 1 = .ok (.getfield 34, 3) := by decide +kernel
theorem dX9_stands_4 : decode cX9_stands 4 = .ok (.aload_n 0, 1) := by decide +kernel
theorem dX9_stands_5 : decode cX9_stands 5 = .ok (.getfield 105, 3) := by decide +kernel
theorem dX9_stands_8 : decode cX9_stands 8 = .ok (.iload_n 1, 1) := by decide +kernel
theorem dX9_stands_9 : decode cX9_stands 9 = .ok (.iastore, 1) := by decide +kernel
theorem dX9_stands_10 : decode cX9_stands 10 = .ok (.aload_n 0, 1) := by decide +kernel
theorem dX9_stands_11 : decode cX9_stands 11 = .ok (.getfield 37, 3) := by decide +kernel
theorem dX9_stands_14 : decode cX9_stands 14 = .ok (.aload_n 0, 1) := by decide +kernel
theorem dX9_stands_15 : decode cX9_stands 15 = .ok (.getfield 105, 3) := by decide +kernel
theorem dX9_stands_18 : decode cX9_stands 18 = .ok (.iload_n 2, 1) := by decide +kernel
theorem dX9_stands_19 : decode cX9_stands 19 = .ok (.iastore, 1) := by decide +kernel
theorem dX9_stands_20 : decode cX9_stands 20 = .ok (.aload_n 0, 1) := by decide +kernel
theorem dX9_stands_21 : decode cX9_stands 21 = .ok (.dup, 1) := by decide +kernel
theorem dX9_stands_22 : decode cX9_stands 22 = .ok (.getfield 105, 3) := by decide +kernel
theorem dX9_stands_25 : decode cX9_stands 25 = .ok (.iconst 1, 1) := by decide +kernel
theorem dX9_stands_26 : decode cX9_stands 26 = .ok (.iadd, 1) := by decide +kernel
theorem dX9_stands_27 : decode cX9_stands 27 = .ok (.putfield 105, 3) := by decide +kernel
theorem dX9_stands_30 : decode cX9_stands 30 = .ok (.return_, 1) := by decide +kernel
theorem dX9_grows_0 : decode cX9_grows 0 = .ok (.aload_n 0, 1) := by decide +kernel
theorem dX9_grows_1 : decode cX9_grows 1 = .ok (.getfield 40, 3) := by decide +kernel
theorem dX9_grows_4 : decode cX9_grows 4 = .ok (.aload_n 0, 1) := by decide +kernel
theorem dX9_grows_5 : decode cX9_grows 5 = .ok (.getfield 108, 3) := by decide +kernel
theorem dX9_grows_8 : decode cX9_grows 8 = .ok (.iload_n 1, 1) := by decide +kernel
theorem dX9_grows_9 : decode cX9_grows 9 = .ok (.iastore, 1) := by decide +kernel
theorem dX9_grows_10 : decode cX9_grows 10 = .ok (.aload_n 0, 1) := by decide +kernel
theorem dX9_grows_11 : decode cX9_grows 11 = .ok (.getfield 43, 3) := by decide +kernel
theorem dX9_grows_14 : decode cX9_grows 14 = .ok (.aload_n 0, 1) := by decide +kernel
theorem dX9_grows_15 : decode cX9_grows 15 = .ok (.getfield 108, 3) := by decide +kernel
theorem dX9_grows_18 : decode cX9_grows 18 = .ok (.iload_n 2, 1) := by decide +kernel
theorem dX9_grows_19 : decode cX9_grows 19 = .ok (.bipush 20, 2) := by decide +kernel
theorem dX9_grows_21 : decode cX9_grows 21 = .ok (.isub, 1) := by decide +kernel
theorem dX9_grows_22 : decode cX9_grows 22 = .ok (.iastore, 1) := by decide +kernel
theorem dX9_grows_23 : decode cX9_grows 23 = .ok (.aload_n 0, 1) := by decide +kernel
theorem dX9_grows_24 : decode cX9_grows 24 = .ok (.dup, 1) := by decide +kernel
theorem dX9_grows_25 : decode cX9_grows 25 = .ok (.getfield 108, 3) := by decide +kernel
theorem dX9_grows_28 : decode cX9_grows 28 = .ok (.iconst 1, 1) := by decide +kernel
theorem dX9_grows_29 : decode cX9_grows 29 = .ok (.iadd, 1) := by decide +kernel
theorem dX9_grows_30 : decode cX9_grows 30 = .ok (.putfield 108, 3) := by decide +kernel
theorem dX9_grows_33 : decode cX9_grows 33 = .ok (.return_, 1) := by decide +kernel
theorem dX9_settles_0 : decode cX9_settles 0 = .ok (.aload_n 0, 1) := by decide +kernel
theorem dX9_settles_1 : decode cX9_settles 1 = .ok (.aload_n 0, 1) := by decide +kernel
theorem dX9_settles_2 : decode cX9_settles 2 = .ok (.getfield 102, 3) := by decide +kernel
theorem dX9_settles_5 : decode cX9_settles 5 = .ok (.putfield 94, 3) := by decide +kernel
theorem dX9_settles_8 : decode cX9_settles 8 = .ok (.aload_n 0, 1) := by decide +kernel
theorem dX9_settles_9 : decode cX9_settles 9 = .ok (.aload_n 0, 1) := by decide +kernel
theorem dX9_settles_10 : decode cX9_settles 10 = .ok (.getfield 105, 3) := by decide +kernel
theorem dX9_settles_13 : decode cX9_settles 13 = .ok (.putfield 111, 3) := by decide +kernel
theorem dX9_settles_16 : decode cX9_settles 16 = .ok (.aload_n 0, 1) := by decide +kernel
theorem dX9_settles_17 : decode cX9_settles 17 = .ok (.aload_n 0, 1) := by decide +kernel
theorem dX9_settles_18 : decode cX9_settles 18 = .ok (.getfield 108, 3) := by decide +kernel
theorem dX9_settles_21 : decode cX9_settles 21 = .ok (.putfield 114, 3) := by decide +kernel
theorem dX9_settles_24 : decode cX9_settles 24 = .ok (.iconst 0, 1) := by decide +kernel
theorem dX9_settles_25 : decode cX9_settles 25 = .ok (.istore_n 1, 1) := by decide +kernel
theorem dX9_settles_26 : decode cX9_settles 26 = .ok (.iload_n 1, 1) := by decide +kernel
theorem dX9_settles_27 : decode cX9_settles 27 = .ok (.bipush 6, 2) := by decide +kernel
theorem dX9_settles_29 : decode cX9_settles 29 = .ok (.if_icmp .ge 57, 3) := by decide +kernel
theorem dX9_settles_32 : decode cX9_settles 32 = .ok (.aload_n 0, 1) := by decide +kernel
theorem dX9_settles_33 : decode cX9_settles 33 = .ok (.getfield 7, 3) := by decide +kernel
theorem dX9_settles_36 : decode cX9_settles 36 = .ok (.iload_n 1, 1) := by decide +kernel
theorem dX9_settles_37 : decode cX9_settles 37 = .ok (.aload_n 0, 1) := by decide +kernel
theorem dX9_settles_38 : decode cX9_settles 38 = .ok (.getfield 28, 3) := by decide +kernel
theorem dX9_settles_41 : decode cX9_settles 41 = .ok (.iload_n 1, 1) := by decide +kernel
theorem dX9_settles_42 : decode cX9_settles 42 = .ok (.iaload, 1) := by decide +kernel
theorem dX9_settles_43 : decode cX9_settles 43 = .ok (.iastore, 1) := by decide +kernel
theorem dX9_settles_44 : decode cX9_settles 44 = .ok (.aload_n 0, 1) := by decide +kernel
theorem dX9_settles_45 : decode cX9_settles 45 = .ok (.getfield 13, 3) := by decide +kernel
theorem dX9_settles_48 : decode cX9_settles 48 = .ok (.iload_n 1, 1) := by decide +kernel
theorem dX9_settles_49 : decode cX9_settles 49 = .ok (.aload_n 0, 1) := by decide +kernel
theorem dX9_settles_50 : decode cX9_settles 50 = .ok (.getfield 31, 3) := by decide +kernel
theorem dX9_settles_53 : decode cX9_settles 53 = .ok (.iload_n 1, 1) := by decide +kernel
theorem dX9_settles_54 : decode cX9_settles 54 = .ok (.iaload, 1) := by decide +kernel
theorem dX9_settles_55 : decode cX9_settles 55 = .ok (.iastore, 1) := by decide +kernel
theorem dX9_settles_56 : decode cX9_settles 56 = .ok (.aload_n 0, 1) := by decide +kernel
theorem dX9_settles_57 : decode cX9_settles 57 = .ok (.getfield 22, 3) := by decide +kernel
theorem dX9_settles_60 : decode cX9_settles 60 = .ok (.iload_n 1, 1) := by decide +kernel
theorem dX9_settles_61 : decode cX9_settles 61 = .ok (.aload_n 0, 1) := by decide +kernel
theorem dX9_settles_62 : decode cX9_settles 62 = .ok (.getfield 40, 3) := by decide +kernel
theorem dX9_settles_65 : decode cX9_settles 65 = .ok (.iload_n 1, 1) := by decide +kernel
theorem dX9_settles_66 : decode cX9_settles 66 = .ok (.iaload, 1) := by decide +kernel
theorem dX9_settles_67 : decode cX9_settles 67 = .ok (.iastore, 1) := by decide +kernel
theorem dX9_settles_68 : decode cX9_settles 68 = .ok (.aload_n 0, 1) := by decide +kernel
theorem dX9_settles_69 : decode cX9_settles 69 = .ok (.getfield 25, 3) := by decide +kernel
theorem dX9_settles_72 : decode cX9_settles 72 = .ok (.iload_n 1, 1) := by decide +kernel
theorem dX9_settles_73 : decode cX9_settles 73 = .ok (.aload_n 0, 1) := by decide +kernel
theorem dX9_settles_74 : decode cX9_settles 74 = .ok (.getfield 43, 3) := by decide +kernel
theorem dX9_settles_77 : decode cX9_settles 77 = .ok (.iload_n 1, 1) := by decide +kernel
theorem dX9_settles_78 : decode cX9_settles 78 = .ok (.iaload, 1) := by decide +kernel
theorem dX9_settles_79 : decode cX9_settles 79 = .ok (.iastore, 1) := by decide +kernel
theorem dX9_settles_80 : decode cX9_settles 80 = .ok (.iinc 1 1, 3) := by decide +kernel
theorem dX9_settles_83 : decode cX9_settles 83 = .ok (.goto (-57), 3) := by decide +kernel
theorem dX9_settles_86 : decode cX9_settles 86 = .ok (.iconst 0, 1) := by decide +kernel
theorem dX9_settles_87 : decode cX9_settles 87 = .ok (.istore_n 1, 1) := by decide +kernel
theorem dX9_settles_88 : decode cX9_settles 88 = .ok (.iload_n 1, 1) := by decide +kernel
theorem dX9_settles_89 : decode cX9_settles 89 = .ok (.bipush 9, 2) := by decide +kernel
theorem dX9_settles_91 : decode cX9_settles 91 = .ok (.if_icmp .ge 33, 3) := by decide +kernel
theorem dX9_settles_94 : decode cX9_settles 94 = .ok (.aload_n 0, 1) := by decide +kernel
theorem dX9_settles_95 : decode cX9_settles 95 = .ok (.getfield 16, 3) := by decide +kernel
theorem dX9_settles_98 : decode cX9_settles 98 = .ok (.iload_n 1, 1) := by decide +kernel
theorem dX9_settles_99 : decode cX9_settles 99 = .ok (.aload_n 0, 1) := by decide +kernel
theorem dX9_settles_100 : decode cX9_settles 100 = .ok (.getfield 34, 3) := by decide +kernel
theorem dX9_settles_103 : decode cX9_settles 103 = .ok (.iload_n 1, 1) := by decide +kernel
theorem dX9_settles_104 : decode cX9_settles 104 = .ok (.iaload, 1) := by decide +kernel
theorem dX9_settles_105 : decode cX9_settles 105 = .ok (.iastore, 1) := by decide +kernel
theorem dX9_settles_106 : decode cX9_settles 106 = .ok (.aload_n 0, 1) := by decide +kernel
theorem dX9_settles_107 : decode cX9_settles 107 = .ok (.getfield 19, 3) := by decide +kernel
theorem dX9_settles_110 : decode cX9_settles 110 = .ok (.iload_n 1, 1) := by decide +kernel
theorem dX9_settles_111 : decode cX9_settles 111 = .ok (.aload_n 0, 1) := by decide +kernel
theorem dX9_settles_112 : decode cX9_settles 112 = .ok (.getfield 37, 3) := by decide +kernel
theorem dX9_settles_115 : decode cX9_settles 115 = .ok (.iload_n 1, 1) := by decide +kernel
theorem dX9_settles_116 : decode cX9_settles 116 = .ok (.iaload, 1) := by decide +kernel
theorem dX9_settles_117 : decode cX9_settles 117 = .ok (.iastore, 1) := by decide +kernel
theorem dX9_settles_118 : decode cX9_settles 118 = .ok (.iinc 1 1, 3) := by decide +kernel
theorem dX9_settles_121 : decode cX9_settles 121 = .ok (.goto (-33), 3) := by decide +kernel
theorem dX9_settles_124 : decode cX9_settles 124 = .ok (.return_, 1) := by decide +kernel
theorem dX9_copies_0 : decode cX9_copies 0 = .ok (.iconst 0, 1) := by decide +kernel
theorem dX9_copies_1 : decode cX9_copies 1 = .ok (.istore_n 3, 1) := by decide +kernel
theorem dX9_copies_2 : decode cX9_copies 2 = .ok (.iload_n 3, 1) := by decide +kernel
theorem dX9_copies_3 : decode cX9_copies 3 = .ok (.bipush 35, 2) := by decide +kernel
theorem dX9_copies_5 : decode cX9_copies 5 = .ok (.if_icmp .ge 25, 3) := by decide +kernel
theorem dX9_copies_8 : decode cX9_copies 8 = .ok (.aload_n 0, 1) := by decide +kernel
theorem dX9_copies_9 : decode cX9_copies 9 = .ok (.getfield 46, 3) := by decide +kernel
theorem dX9_copies_12 : decode cX9_copies 12 = .ok (.iload_n 2, 1) := by decide +kernel
theorem dX9_copies_13 : decode cX9_copies 13 = .ok (.iload_n 3, 1) := by decide +kernel
theorem dX9_copies_14 : decode cX9_copies 14 = .ok (.iadd, 1) := by decide +kernel
theorem dX9_copies_15 : decode cX9_copies 15 = .ok (.aload_n 0, 1) := by decide +kernel
theorem dX9_copies_16 : decode cX9_copies 16 = .ok (.getfield 46, 3) := by decide +kernel
theorem dX9_copies_19 : decode cX9_copies 19 = .ok (.iload_n 1, 1) := by decide +kernel
theorem dX9_copies_20 : decode cX9_copies 20 = .ok (.iload_n 3, 1) := by decide +kernel
theorem dX9_copies_21 : decode cX9_copies 21 = .ok (.iadd, 1) := by decide +kernel
theorem dX9_copies_22 : decode cX9_copies 22 = .ok (.iaload, 1) := by decide +kernel
theorem dX9_copies_23 : decode cX9_copies 23 = .ok (.iastore, 1) := by decide +kernel
theorem dX9_copies_24 : decode cX9_copies 24 = .ok (.iinc 3 1, 3) := by decide +kernel
theorem dX9_copies_27 : decode cX9_copies 27 = .ok (.goto (-25), 3) := by decide +kernel
theorem dX9_copies_30 : decode cX9_copies 30 = .ok (.return_, 1) := by decide +kernel
set_option maxRecDepth 20000 in
theorem ggX9_isFamily_X9_in : GoodIn wsX9_isFamily wsX9_in := goodIn_r _ [5] (by decide +kernel) (by decide +kernel)
set_option maxRecDepth 20000 in
theorem gX9_isFamily_X9_in : GoodIn wsX9_isFamily (va_wsS RX9 117 yX9_in wsX9_in) := goodIn_app (goodIn_of _ (by decide +kernel)) ggX9_isFamily_X9_in
theorem dX9_isFamily_0 : decode cX9_isFamily 0 = .ok (.iload_n 1, 1) := by decide +kernel
theorem dX9_isFamily_1 : decode cX9_isFamily 1 = .ok (.i2l, 1) := by decide +kernel
theorem dX9_isFamily_2 : decode cX9_isFamily 2 = .ok (.lconst 0, 1) := by decide +kernel
theorem dX9_isFamily_3 : decode cX9_isFamily 3 = .ok (.aload_n 0, 1) := by decide +kernel
theorem dX9_isFamily_4 : decode cX9_isFamily 4 = .ok (.getfield 94, 3) := by decide +kernel
theorem dX9_isFamily_7 : decode cX9_isFamily 7 = .ok (.iconst 1, 1) := by decide +kernel
theorem dX9_isFamily_8 : decode cX9_isFamily 8 = .ok (.isub, 1) := by decide +kernel
theorem dX9_isFamily_9 : decode cX9_isFamily 9 = .ok (.i2l, 1) := by decide +kernel
theorem dX9_isFamily_10 : decode cX9_isFamily 10 = .ok (.invokestatic 117, 3) := by decide +kernel
theorem dX9_isFamily_13 : decode cX9_isFamily 13 = .ok (.ireturn, 1) := by decide +kernel
set_option maxRecDepth 20000 in
theorem ggX9_isWall_X9_in : GoodIn wsX9_isWall wsX9_in := goodIn_r _ [5] (by decide +kernel) (by decide +kernel)
set_option maxRecDepth 20000 in
theorem gX9_isWall_X9_in : GoodIn wsX9_isWall (va_wsS RX9 117 yX9_in wsX9_in) := goodIn_app (goodIn_of _ (by decide +kernel)) ggX9_isWall_X9_in
theorem dX9_isWall_0 : decode cX9_isWall 0 = .ok (.iload_n 1, 1) := by decide +kernel
theorem dX9_isWall_1 : decode cX9_isWall 1 = .ok (.i2l, 1) := by decide +kernel
theorem dX9_isWall_2 : decode cX9_isWall 2 = .ok (.lconst 0, 1) := by decide +kernel
theorem dX9_isWall_3 : decode cX9_isWall 3 = .ok (.aload_n 0, 1) := by decide +kernel
theorem dX9_isWall_4 : decode cX9_isWall 4 = .ok (.getfield 111, 3) := by decide +kernel
theorem dX9_isWall_7 : decode cX9_isWall 7 = .ok (.iconst 1, 1) := by decide +kernel
theorem dX9_isWall_8 : decode cX9_isWall 8 = .ok (.isub, 1) := by decide +kernel
theorem dX9_isWall_9 : decode cX9_isWall 9 = .ok (.i2l, 1) := by decide +kernel
theorem dX9_isWall_10 : decode cX9_isWall 10 = .ok (.invokestatic 117, 3) := by decide +kernel
theorem dX9_isWall_13 : decode cX9_isWall 13 = .ok (.ireturn, 1) := by decide +kernel
theorem dX9_isOf_0 : decode cX9_isOf 0 = .ok (.aload_n 0, 1) := by decide +kernel
theorem dX9_isOf_1 : decode cX9_isOf 1 = .ok (.getfield 16, 3) := by decide +kernel
theorem dX9_isOf_4 : decode cX9_isOf 4 = .ok (.iload_n 2, 1) := by decide +kernel
theorem dX9_isOf_5 : decode cX9_isOf 5 = .ok (.iaload, 1) := by decide +kernel
theorem dX9_isOf_6 : decode cX9_isOf 6 = .ok (.iload_n 1, 1) := by decide +kernel
theorem dX9_isOf_7 : decode cX9_isOf 7 = .ok (.if_icmp .eq 13, 3) := by decide +kernel
theorem dX9_isOf_10 : decode cX9_isOf 10 = .ok (.aload_n 0, 1) := by decide +kernel
theorem dX9_isOf_11 : decode cX9_isOf 11 = .ok (.getfield 19, 3) := by decide +kernel
theorem dX9_isOf_14 : decode cX9_isOf 14 = .ok (.iload_n 2, 1) := by decide +kernel
theorem dX9_isOf_15 : decode cX9_isOf 15 = .ok (.iaload, 1) := by decide +kernel
theorem dX9_isOf_16 : decode cX9_isOf 16 = .ok (.iload_n 1, 1) := by decide +kernel
theorem dX9_isOf_17 : decode cX9_isOf 17 = .ok (.if_icmp .ne 7, 3) := by decide +kernel
theorem dX9_isOf_20 : decode cX9_isOf 20 = .ok (.iconst 1, 1) := by decide +kernel
theorem dX9_isOf_21 : decode cX9_isOf 21 = .ok (.goto 4, 3) := by decide +kernel
theorem dX9_isOf_24 : decode cX9_isOf 24 = .ok (.iconst 0, 1) := by decide +kernel
theorem dX9_isOf_25 : decode cX9_isOf 25 = .ok (.ireturn, 1) := by decide +kernel
set_option maxRecDepth 20000 in
theorem ggX9_many_X9_isOf : GoodIn wsX9_many wsX9_isOf := goodIn_r _ [6, 7, 8, 9, 10, 11, 12, 13, 14, 15, 16, 17, 18, 19, 20, 21, 22, 23, 24, 25, 26, 27, 28, 29, 30, 31, 32, 33, 34, 35, 36, 37, 38, 39, 40, 41, 42, 43, 44, 45, 46] (by decide +kernel) (by decide +kernel)
set_option maxRecDepth 20000 in
theorem gX9_many_X9_isOf : GoodIn wsX9_many (wsV RX9 121 RX9 yX9_isOf wsX9_isOf) := goodIn_app (goodIn_of _ (by decide +kernel)) ggX9_many_X9_isOf
theorem dX9_many_0 : decode cX9_many 0 = .ok (.iconst 0, 1) := by decide +kernel
theorem dX9_many_1 : decode cX9_many 1 = .ok (.istore_n 2, 1) := by decide +kernel
theorem dX9_many_2 : decode cX9_many 2 = .ok (.iconst 0, 1) := by decide +kernel
theorem dX9_many_3 : decode cX9_many 3 = .ok (.istore_n 3, 1) := by decide +kernel
theorem dX9_many_4 : decode cX9_many 4 = .ok (.iload_n 3, 1) := by decide +kernel
theorem dX9_many_5 : decode cX9_many 5 = .ok (.aload_n 0, 1) := by decide +kernel
theorem dX9_many_6 : decode cX9_many 6 = .ok (.getfield 111, 3) := by decide +kernel
theorem dX9_many_9 : decode cX9_many 9 = .ok (.if_icmp .ge 26, 3) := by decide +kernel
theorem dX9_many_12 : decode cX9_many 12 = .ok (.iload_n 2, 1) := by decide +kernel
theorem dX9_many_13 : decode cX9_many 13 = .ok (.aload_n 0, 1) := by decide +kernel
theorem dX9_many_14 : decode cX9_many 14 = .ok (.iload_n 1, 1) := by decide +kernel
theorem dX9_many_15 : decode cX9_many 15 = .ok (.iload_n 3, 1) := by decide +kernel
theorem dX9_many_16 : decode cX9_many 16 = .ok (.invokevirtual 121, 3) := by decide +kernel
theorem dX9_many_19 : decode cX9_many 19 = .ok (.ifCond .eq 7, 3) := by decide +kernel
theorem dX9_many_22 : decode cX9_many 22 = .ok (.iconst 1, 1) := by decide +kernel
theorem dX9_many_23 : decode cX9_many 23 = .ok (.goto 4, 3) := by decide +kernel
theorem dX9_many_26 : decode cX9_many 26 = .ok (.iconst 0, 1) := by decide +kernel
theorem dX9_many_27 : decode cX9_many 27 = .ok (.iadd, 1) := by decide +kernel
theorem dX9_many_28 : decode cX9_many 28 = .ok (.istore_n 2, 1) := by decide +kernel
theorem dX9_many_29 : decode cX9_many 29 = .ok (.iinc 3 1, 3) := by decide +kernel
theorem dX9_many_32 : decode cX9_many 32 = .ok (.goto (-28), 3) := by decide +kernel
theorem dX9_many_35 : decode cX9_many 35 = .ok (.iload_n 2, 1) := by decide +kernel
theorem dX9_many_36 : decode cX9_many 36 = .ok (.ireturn, 1) := by decide +kernel
theorem dX9_puts_0 : decode cX9_puts 0 = .ok (.aload_n 0, 1) := by decide +kernel
theorem dX9_puts_1 : decode cX9_puts 1 = .ok (.getfield 46, 3) := by decide +kernel
theorem dX9_puts_4 : decode cX9_puts 4 = .ok (.iload_n 1, 1) := by decide +kernel
theorem dX9_puts_5 : decode cX9_puts 5 = .ok (.aload_n 0, 1) := by decide +kernel
theorem dX9_puts_6 : decode cX9_puts 6 = .ok (.getfield 16, 3) := by decide +kernel
theorem dX9_puts_9 : decode cX9_puts 9 = .ok (.iload_n 3, 1) := by decide +kernel
theorem dX9_puts_10 : decode cX9_puts 10 = .ok (.iaload, 1) := by decide +kernel
theorem dX9_puts_11 : decode cX9_puts 11 = .ok (.iload_n 2, 1) := by decide +kernel
theorem dX9_puts_12 : decode cX9_puts 12 = .ok (.if_icmp .ne 8, 3) := by decide +kernel
theorem dX9_puts_15 : decode cX9_puts 15 = .ok (.bipush 15, 2) := by decide +kernel
theorem dX9_puts_17 : decode cX9_puts 17 = .ok (.goto 5, 3) := by decide +kernel
theorem dX9_puts_20 : decode cX9_puts 20 = .ok (.bipush 24, 2) := by decide +kernel
theorem dX9_puts_22 : decode cX9_puts 22 = .ok (.iadd, 1) := by decide +kernel
theorem dX9_puts_23 : decode cX9_puts 23 = .ok (.iload_n 3, 1) := by decide +kernel
theorem dX9_puts_24 : decode cX9_puts 24 = .ok (.iadd, 1) := by decide +kernel
theorem dX9_puts_25 : decode cX9_puts 25 = .ok (.iload 4, 2) := by decide +kernel
theorem dX9_puts_27 : decode cX9_puts 27 = .ok (.iastore, 1) := by decide +kernel
theorem dX9_puts_28 : decode cX9_puts 28 = .ok (.return_, 1) := by decide +kernel
theorem dX9_shareOf_0 : decode cX9_shareOf 0 = .ok (.aload_n 0, 1) := by decide +kernel
theorem dX9_shareOf_1 : decode cX9_shareOf 1 = .ok (.getfield 46, 3) := by decide +kernel
theorem dX9_shareOf_4 : decode cX9_shareOf 4 = .ok (.iload_n 1, 1) := by decide +kernel
theorem dX9_shareOf_5 : decode cX9_shareOf 5 = .ok (.aload_n 0, 1) := by decide +kernel
theorem dX9_shareOf_6 : decode cX9_shareOf 6 = .ok (.getfield 16, 3) := by decide +kernel
theorem dX9_shareOf_9 : decode cX9_shareOf 9 = .ok (.iload_n 3, 1) := by decide +kernel
theorem dX9_shareOf_10 : decode cX9_shareOf 10 = .ok (.iaload, 1) := by decide +kernel
theorem dX9_shareOf_11 : decode cX9_shareOf 11 = .ok (.iload_n 2, 1) := by decide +kernel
theorem dX9_shareOf_12 : decode cX9_shareOf 12 = .ok (.if_icmp .ne 8, 3) := by decide +kernel
theorem dX9_shareOf_15 : decode cX9_shareOf 15 = .ok (.bipush 15, 2) := by decide +kernel
theorem dX9_shareOf_17 : decode cX9_shareOf 17 = .ok (.goto 5, 3) := by decide +kernel
theorem dX9_shareOf_20 : decode cX9_shareOf 20 = .ok (.bipush 24, 2) := by decide +kernel
theorem dX9_shareOf_22 : decode cX9_shareOf 22 = .ok (.iadd, 1) := by decide +kernel
theorem dX9_shareOf_23 : decode cX9_shareOf 23 = .ok (.iload_n 3, 1) := by decide +kernel
theorem dX9_shareOf_24 : decode cX9_shareOf 24 = .ok (.iadd, 1) := by decide +kernel
theorem dX9_shareOf_25 : decode cX9_shareOf 25 = .ok (.iaload, 1) := by decide +kernel
theorem dX9_shareOf_26 : decode cX9_shareOf 26 = .ok (.ireturn, 1) := by decide +kernel
set_option maxRecDepth 20000 in
theorem ggX9_evenly_X9_many : GoodIn wsX9_evenly wsX9_many := goodIn_r _ [6, 1, 7, 8, 9, 5, 10, 11, 12, 18, 19, 20, 21, 22, 23, 24, 25, 26, 27, 28, 29, 30, 31, 32, 33, 34, 35, 36, 37, 38, 39, 40, 41, 42, 43, 44, 45, 46, 47, 48, 49, 50, 51, 52, 53, 54, 55] (by decide +kernel) (by decide +kernel)
set_option maxRecDepth 20000 in
theorem gX9_evenly_X9_many : GoodIn wsX9_evenly (wsV RX9 125 RX9 yX9_many wsX9_many) := goodIn_app (goodIn_of _ (by decide +kernel)) ggX9_evenly_X9_many
set_option maxRecDepth 20000 in
theorem ggX9_evenly_X9_isOf : GoodIn wsX9_evenly wsX9_isOf := goodIn_r _ [10, 11, 12, 18, 19, 20, 21, 22, 23, 24, 25, 26, 27, 28, 29, 30, 31, 32, 33, 34, 35, 36, 37, 38, 39, 40, 41, 42, 43, 44, 45, 46, 47, 48, 49, 50, 51, 52, 53, 54, 55] (by decide +kernel) (by decide +kernel)
set_option maxRecDepth 20000 in
theorem gX9_evenly_X9_isOf : GoodIn wsX9_evenly (wsV RX9 121 RX9 yX9_isOf wsX9_isOf) := goodIn_app (goodIn_of _ (by decide +kernel)) ggX9_evenly_X9_isOf
set_option maxRecDepth 20000 in
theorem ggX9_evenly_X9_puts : GoodIn wsX9_evenly wsX9_puts := goodIn_r _ [16, 17, 11, 18, 19, 20, 21, 22, 23, 24, 25, 26, 27, 28, 29, 30, 31, 32, 33, 34, 35, 36, 37, 38, 39, 40, 41, 42, 43, 44, 45, 46, 47, 48, 49, 50, 51, 52, 53, 54, 55] (by decide +kernel) (by decide +kernel)
set_option maxRecDepth 20000 in
theorem gX9_evenly_X9_puts : GoodIn wsX9_evenly (wsV RX9 129 RX9 yX9_puts wsX9_puts) := goodIn_app (goodIn_of _ (by decide +kernel)) ggX9_evenly_X9_puts
theorem dX9_evenly_0 : decode cX9_evenly 0 = .ok (.aload_n 0, 1) := by decide +kernel
theorem dX9_evenly_1 : decode cX9_evenly 1 = .ok (.iload_n 2, 1) := by decide +kernel
theorem dX9_evenly_2 : decode cX9_evenly 2 = .ok (.invokevirtual 125, 3) := by decide +kernel
theorem dX9_evenly_5 : decode cX9_evenly 5 = .ok (.istore 4, 2) := by decide +kernel
theorem dX9_evenly_7 : decode cX9_evenly 7 = .ok (.iconst 0, 1) := by decide +kernel
theorem dX9_evenly_8 : decode cX9_evenly 8 = .ok (.istore 5, 2) := by decide +kernel
theorem dX9_evenly_10 : decode cX9_evenly 10 = .ok (.iconst 0, 1) := by decide +kernel
theorem dX9_evenly_11 : decode cX9_evenly 11 = .ok (.istore 6, 2) := by decide +kernel
theorem dX9_evenly_13 : decode cX9_evenly 13 = .ok (.iload 6, 2) := by decide +kernel
theorem dX9_evenly_15 : decode cX9_evenly 15 = .ok (.aload_n 0, 1) := by decide +kernel
theorem dX9_evenly_16 : decode cX9_evenly 16 = .ok (.getfield 111, 3) := by decide +kernel
theorem dX9_evenly_19 : decode cX9_evenly 19 = .ok (.if_icmp .ge 49, 3) := by decide +kernel
theorem dX9_evenly_22 : decode cX9_evenly 22 = .ok (.aload_n 0, 1) := by decide +kernel
theorem dX9_evenly_23 : decode cX9_evenly 23 = .ok (.iload_n 2, 1) := by decide +kernel
theorem dX9_evenly_24 : decode cX9_evenly 24 = .ok (.iload 6, 2) := by decide +kernel
theorem dX9_evenly_26 : decode cX9_evenly 26 = .ok (.invokevirtual 121, 3) := by decide +kernel
theorem dX9_evenly_29 : decode cX9_evenly 29 = .ok (.ifCond .eq 33, 3) := by decide +kernel
theorem dX9_evenly_32 : decode cX9_evenly 32 = .ok (.aload_n 0, 1) := by decide +kernel
theorem dX9_evenly_33 : decode cX9_evenly 33 = .ok (.iload_n 1, 1) := by decide +kernel
theorem dX9_evenly_34 : decode cX9_evenly 34 = .ok (.iload_n 2, 1) := by decide +kernel
theorem dX9_evenly_35 : decode cX9_evenly 35 = .ok (.iload 6, 2) := by decide +kernel
theorem dX9_evenly_37 : decode cX9_evenly 37 = .ok (.iload_n 3, 1) := by decide +kernel
theorem dX9_evenly_38 : decode cX9_evenly 38 = .ok (.iload 4, 2) := by decide +kernel
theorem dX9_evenly_40 : decode cX9_evenly 40 = .ok (.idiv, 1) := by decide +kernel
theorem dX9_evenly_41 : decode cX9_evenly 41 = .ok (.iload 5, 2) := by decide +kernel
theorem dX9_evenly_43 : decode cX9_evenly 43 = .ok (.iload_n 3, 1) := by decide +kernel
theorem dX9_evenly_44 : decode cX9_evenly 44 = .ok (.iload 4, 2) := by decide +kernel
theorem dX9_evenly_46 : decode cX9_evenly 46 = .ok (.irem, 1) := by decide +kernel
theorem dX9_evenly_47 : decode cX9_evenly 47 = .ok (.if_icmp .ge 7, 3) := by decide +kernel
theorem dX9_evenly_50 : decode cX9_evenly 50 = .ok (.iconst 1, 1) := by decide +kernel
theorem dX9_evenly_51 : decode cX9_evenly 51 = .ok (.goto 4, 3) := by decide +kernel
theorem dX9_evenly_54 : decode cX9_evenly 54 = .ok (.iconst 0, 1) := by decide +kernel
theorem dX9_evenly_55 : decode cX9_evenly 55 = .ok (.iadd, 1) := by decide +kernel
theorem dX9_evenly_56 : decode cX9_evenly 56 = .ok (.invokevirtual 129, 3) := by decide +kernel
theorem dX9_evenly_59 : decode cX9_evenly 59 = .ok (.iinc 5 1, 3) := by decide +kernel
theorem dX9_evenly_62 : decode cX9_evenly 62 = .ok (.iinc 6 1, 3) := by decide +kernel
theorem dX9_evenly_65 : decode cX9_evenly 65 = .ok (.goto (-52), 3) := by decide +kernel
theorem dX9_evenly_68 : decode cX9_evenly 68 = .ok (.return_, 1) := by decide +kernel
set_option maxRecDepth 20000 in
theorem ggX9_write_X9_in : GoodIn wsX9_write wsX9_in := goodIn_r _ [8] (by decide +kernel) (by decide +kernel)
set_option maxRecDepth 20000 in
theorem gX9_write_X9_in : GoodIn wsX9_write (va_wsS RX9 117 yX9_in wsX9_in) := goodIn_app (goodIn_of _ (by decide +kernel)) ggX9_write_X9_in
theorem dX9_write_0 : decode cX9_write 0 = .ok (.iload_n 1, 1) := by decide +kernel
theorem dX9_write_1 : decode cX9_write 1 = .ok (.i2l, 1) := by decide +kernel
theorem dX9_write_2 : decode cX9_write 2 = .ok (.ldc2_w 132, 3) := by decide +kernel
theorem dX9_write_5 : decode cX9_write 5 = .ok (.ldc2_w 134, 3) := by decide +kernel
theorem dX9_write_8 : decode cX9_write 8 = .ok (.invokestatic 117, 3) := by decide +kernel
theorem dX9_write_11 : decode cX9_write 11 = .ok (.ifCond .ne 5, 3) := by decide +kernel
theorem dX9_write_14 : decode cX9_write 14 = .ok (.iconst (-1), 1) := by decide +kernel
theorem dX9_write_15 : decode cX9_write 15 = .ok (.ireturn, 1) := by decide +kernel
theorem dX9_write_16 : decode cX9_write 16 = .ok (.aload_n 0, 1) := by decide +kernel
theorem dX9_write_17 : decode cX9_write 17 = .ok (.getfield 136, 3) := by decide +kernel
theorem dX9_write_20 : decode cX9_write 20 = .ok (.sipush 200, 3) := by decide +kernel
theorem dX9_write_23 : decode cX9_write 23 = .ok (.if_icmp .ne 6, 3) := by decide +kernel
theorem dX9_write_26 : decode cX9_write 26 = .ok (.bipush (-3), 2) := by decide +kernel
theorem dX9_write_28 : decode cX9_write 28 = .ok (.ireturn, 1) := by decide +kernel
theorem dX9_write_29 : decode cX9_write 29 = .ok (.aload_n 0, 1) := by decide +kernel
theorem dX9_write_30 : decode cX9_write 30 = .ok (.getfield 49, 3) := by decide +kernel
theorem dX9_write_33 : decode cX9_write 33 = .ok (.aload_n 0, 1) := by decide +kernel
theorem dX9_write_34 : decode cX9_write 34 = .ok (.getfield 136, 3) := by decide +kernel
theorem dX9_write_37 : decode cX9_write 37 = .ok (.iload_n 1, 1) := by decide +kernel
theorem dX9_write_38 : decode cX9_write 38 = .ok (.i2b, 1) := by decide +kernel
theorem dX9_write_39 : decode cX9_write 39 = .ok (.bastore, 1) := by decide +kernel
theorem dX9_write_40 : decode cX9_write 40 = .ok (.aload_n 0, 1) := by decide +kernel
theorem dX9_write_41 : decode cX9_write 41 = .ok (.dup, 1) := by decide +kernel
theorem dX9_write_42 : decode cX9_write 42 = .ok (.getfield 136, 3) := by decide +kernel
theorem dX9_write_45 : decode cX9_write 45 = .ok (.iconst 1, 1) := by decide +kernel
theorem dX9_write_46 : decode cX9_write 46 = .ok (.iadd, 1) := by decide +kernel
theorem dX9_write_47 : decode cX9_write 47 = .ok (.putfield 136, 3) := by decide +kernel
theorem dX9_write_50 : decode cX9_write 50 = .ok (.aload_n 0, 1) := by decide +kernel
theorem dX9_write_51 : decode cX9_write 51 = .ok (.getfield 136, 3) := by decide +kernel
theorem dX9_write_54 : decode cX9_write 54 = .ok (.ireturn, 1) := by decide +kernel
theorem dX9_wipe_0 : decode cX9_wipe 0 = .ok (.aload_n 0, 1) := by decide +kernel
theorem dX9_wipe_1 : decode cX9_wipe 1 = .ok (.getfield 136, 3) := by decide +kernel
theorem dX9_wipe_4 : decode cX9_wipe 4 = .ok (.istore_n 1, 1) := by decide +kernel
theorem dX9_wipe_5 : decode cX9_wipe 5 = .ok (.aload_n 0, 1) := by decide +kernel
theorem dX9_wipe_6 : decode cX9_wipe 6 = .ok (.iconst 0, 1) := by decide +kernel
theorem dX9_wipe_7 : decode cX9_wipe 7 = .ok (.putfield 136, 3) := by decide +kernel
theorem dX9_wipe_10 : decode cX9_wipe 10 = .ok (.iload_n 1, 1) := by decide +kernel
theorem dX9_wipe_11 : decode cX9_wipe 11 = .ok (.ireturn, 1) := by decide +kernel
theorem dX9_next_0 : decode cX9_next 0 = .ok (.aload_n 0, 1) := by decide +kernel
theorem dX9_next_1 : decode cX9_next 1 = .ok (.getfield 139, 3) := by decide +kernel
theorem dX9_next_4 : decode cX9_next 4 = .ok (.aload_n 0, 1) := by decide +kernel
theorem dX9_next_5 : decode cX9_next 5 = .ok (.getfield 136, 3) := by decide +kernel
theorem dX9_next_8 : decode cX9_next 8 = .ok (.if_icmp .ge 15, 3) := by decide +kernel
theorem dX9_next_11 : decode cX9_next 11 = .ok (.aload_n 0, 1) := by decide +kernel
theorem dX9_next_12 : decode cX9_next 12 = .ok (.getfield 49, 3) := by decide +kernel
theorem dX9_next_15 : decode cX9_next 15 = .ok (.aload_n 0, 1) := by decide +kernel
theorem dX9_next_16 : decode cX9_next 16 = .ok (.getfield 139, 3) := by decide +kernel
theorem dX9_next_19 : decode cX9_next 19 = .ok (.baload, 1) := by decide +kernel
theorem dX9_next_20 : decode cX9_next 20 = .ok (.goto 4, 3) := by decide +kernel
theorem dX9_next_23 : decode cX9_next 23 = .ok (.iconst (-1), 1) := by decide +kernel
theorem dX9_next_24 : decode cX9_next 24 = .ok (.ireturn, 1) := by decide +kernel
set_option maxRecDepth 20000 in
theorem ggX9_number_X9_next : GoodIn wsX9_number wsX9_next := goodIn_r _ [9, 3, 10, 11, 15, 16, 17, 18, 19, 20, 21, 22, 23, 24, 25, 26, 27, 28, 29, 30, 31, 32, 33, 34, 35, 36, 37, 38, 39, 40, 41, 42, 43, 44, 45, 46, 47, 48, 49, 50, 51, 52] (by decide +kernel) (by decide +kernel)
set_option maxRecDepth 20000 in
theorem gX9_number_X9_next : GoodIn wsX9_number (wsV RX9 142 RX9 yX9_next wsX9_next) := goodIn_app (goodIn_of _ (by decide +kernel)) ggX9_number_X9_next
set_option maxRecDepth 20000 in
theorem ggX9_number_X9_in : GoodIn wsX9_number wsX9_in := goodIn_r _ [14] (by decide +kernel) (by decide +kernel)
set_option maxRecDepth 20000 in
theorem gX9_number_X9_in : GoodIn wsX9_number (va_wsS RX9 117 yX9_in wsX9_in) := goodIn_app (goodIn_of _ (by decide +kernel)) ggX9_number_X9_in
theorem dX9_number_0 : decode cX9_number 0 = .ok (.iconst 0, 1) := by decide +kernel
theorem dX9_number_1 : decode cX9_number 1 = .ok (.istore_n 3, 1) := by decide +kernel
theorem dX9_number_2 : decode cX9_number 2 = .ok (.iconst 0, 1) := by decide +kernel
theorem dX9_number_3 : decode cX9_number 3 = .ok (.istore 4, 2) := by decide +kernel
theorem dX9_number_5 : decode cX9_number 5 = .ok (.aload_n 0, 1) := by decide +kernel
theorem dX9_number_6 : decode cX9_number 6 = .ok (.invokevirtual 142, 3) := by decide +kernel
theorem dX9_number_9 : decode cX9_number 9 = .ok (.i2l, 1) := by decide +kernel
theorem dX9_number_10 : decode cX9_number 10 = .ok (.ldc2_w 146, 3) := by decide +kernel
theorem dX9_number_13 : decode cX9_number 13 = .ok (.ldc2_w 148, 3) := by decide +kernel
theorem dX9_number_16 : decode cX9_number 16 = .ok (.invokestatic 117, 3) := by decide +kernel
theorem dX9_number_19 : decode cX9_number 19 = .ok (.ifCond .eq 38, 3) := by decide +kernel
theorem dX9_number_22 : decode cX9_number 22 = .ok (.iload 4, 2) := by decide +kernel
theorem dX9_number_24 : decode cX9_number 24 = .ok (.iconst 3, 1) := by decide +kernel
theorem dX9_number_25 : decode cX9_number 25 = .ok (.if_icmp .ge 32, 3) := by decide +kernel
theorem dX9_number_28 : decode cX9_number 28 = .ok (.bipush 10, 2) := by decide +kernel
theorem dX9_number_30 : decode cX9_number 30 = .ok (.iload_n 3, 1) := by decide +kernel
theorem dX9_number_31 : decode cX9_number 31 = .ok (.imul, 1) := by decide +kernel
theorem dX9_number_32 : decode cX9_number 32 = .ok (.aload_n 0, 1) := by decide +kernel
theorem dX9_number_33 : decode cX9_number 33 = .ok (.invokevirtual 142, 3) := by decide +kernel
theorem dX9_number_36 : decode cX9_number 36 = .ok (.iadd, 1) := by decide +kernel
theorem dX9_number_37 : decode cX9_number 37 = .ok (.bipush 48, 2) := by decide +kernel
theorem dX9_number_39 : decode cX9_number 39 = .ok (.isub, 1) := by decide +kernel
theorem dX9_number_40 : decode cX9_number 40 = .ok (.istore_n 3, 1) := by decide +kernel
theorem dX9_number_41 : decode cX9_number 41 = .ok (.iinc 4 1, 3) := by decide +kernel
theorem dX9_number_44 : decode cX9_number 44 = .ok (.aload_n 0, 1) := by decide +kernel
theorem dX9_number_45 : decode cX9_number 45 = .ok (.dup, 1) := by decide +kernel
theorem dX9_number_46 : decode cX9_number 46 = .ok (.getfield 139, 3) := by decide +kernel
theorem dX9_number_49 : decode cX9_number 49 = .ok (.iconst 1, 1) := by decide +kernel
theorem dX9_number_50 : decode cX9_number 50 = .ok (.iadd, 1) := by decide +kernel
theorem dX9_number_51 : decode cX9_number 51 = .ok (.putfield 139, 3) := by decide +kernel
theorem dX9_number_54 : decode cX9_number 54 = .ok (.goto (-49), 3) := by decide +kernel
theorem dX9_number_57 : decode cX9_number 57 = .ok (.aload_n 0, 1) := by decide +kernel
theorem dX9_number_58 : decode cX9_number 58 = .ok (.aload_n 0, 1) := by decide +kernel
theorem dX9_number_59 : decode cX9_number 59 = .ok (.getfield 150, 3) := by decide +kernel
theorem dX9_number_62 : decode cX9_number 62 = .ok (.ifCond .ne 26, 3) := by decide +kernel
theorem dX9_number_65 : decode cX9_number 65 = .ok (.iload 4, 2) := by decide +kernel
theorem dX9_number_67 : decode cX9_number 67 = .ok (.ifCond .eq 21, 3) := by decide +kernel
theorem dX9_number_70 : decode cX9_number 70 = .ok (.iload 4, 2) := by decide +kernel
theorem dX9_number_72 : decode cX9_number 72 = .ok (.iconst 2, 1) := by decide +kernel
theorem dX9_number_73 : decode cX9_number 73 = .ok (.if_icmp .gt 15, 3) := by decide +kernel
theorem dX9_number_76 : decode cX9_number 76 = .ok (.iload_n 3, 1) := by decide +kernel
theorem dX9_number_77 : decode cX9_number 77 = .ok (.i2l, 1) := by decide +kernel
theorem dX9_number_78 : decode cX9_number 78 = .ok (.iload_n 1, 1) := by decide +kernel
theorem dX9_number_79 : decode cX9_number 79 = .ok (.i2l, 1) := by decide +kernel
theorem dX9_number_80 : decode cX9_number 80 = .ok (.iload_n 2, 1) := by decide +kernel
theorem dX9_number_81 : decode cX9_number 81 = .ok (.i2l, 1) := by decide +kernel
theorem dX9_number_82 : decode cX9_number 82 = .ok (.invokestatic 117, 3) := by decide +kernel
theorem dX9_number_85 : decode cX9_number 85 = .ok (.ifCond .ne 7, 3) := by decide +kernel
theorem dX9_number_88 : decode cX9_number 88 = .ok (.iconst 1, 1) := by decide +kernel
theorem dX9_number_89 : decode cX9_number 89 = .ok (.goto 4, 3) := by decide +kernel
theorem dX9_number_92 : decode cX9_number 92 = .ok (.iconst 0, 1) := by decide +kernel
theorem dX9_number_93 : decode cX9_number 93 = .ok (.putfield 150, 3) := by decide +kernel
theorem dX9_number_96 : decode cX9_number 96 = .ok (.aload_n 0, 1) := by decide +kernel
theorem dX9_number_97 : decode cX9_number 97 = .ok (.getfield 150, 3) := by decide +kernel
theorem dX9_number_100 : decode cX9_number 100 = .ok (.ifCond .eq 7, 3) := by decide +kernel
theorem dX9_number_103 : decode cX9_number 103 = .ok (.iconst 0, 1) := by decide +kernel
theorem dX9_number_104 : decode cX9_number 104 = .ok (.goto 4, 3) := by decide +kernel
theorem dX9_number_107 : decode cX9_number 107 = .ok (.iload_n 3, 1) := by decide +kernel
theorem dX9_number_108 : decode cX9_number 108 = .ok (.ireturn, 1) := by decide +kernel
set_option maxRecDepth 20000 in
theorem ggX9_more_X9_next : GoodIn wsX9_more wsX9_next := goodIn_r _ [7, 2, 8, 9, 19, 20, 21, 22, 23, 24, 25, 26, 27, 28, 29, 30, 31, 32, 33, 34, 35, 36, 37, 38, 39, 40, 41, 42, 43, 44, 45, 46, 47, 48, 49, 50, 51, 52, 53, 54, 55, 56] (by decide +kernel) (by decide +kernel)
set_option maxRecDepth 20000 in
theorem gX9_more_X9_next : GoodIn wsX9_more (wsV RX9 142 RX9 yX9_next wsX9_next) := goodIn_app (goodIn_of _ (by decide +kernel)) ggX9_more_X9_next
set_option maxRecDepth 20000 in
theorem ggX9_more_X9_number : GoodIn wsX9_more wsX9_number := goodIn_r _ [13, 14, 15, 2, 1, 3, 4, 5, 6, 7, 8, 9, 16, 17, 18, 19, 20, 21, 22, 23, 24, 25, 26, 27, 28, 29, 30, 31, 32, 33, 34, 35, 36, 37, 38, 39, 40, 41, 42, 43, 44, 45, 46, 47, 48, 49, 50, 51, 52, 53, 54, 55, 56] (by decide +kernel) (by decide +kernel)
set_option maxRecDepth 20000 in
theorem gX9_more_X9_number : GoodIn wsX9_more (wsV RX9 154 RX9 yX9_number wsX9_number) := goodIn_app (goodIn_of _ (by decide +kernel)) ggX9_more_X9_number
theorem dX9_more_0 : decode cX9_more 0 = .ok (.aload_n 0, 1) := by decide +kernel
theorem dX9_more_1 : decode cX9_more 1 = .ok (.aload_n 0, 1) := by decide +kernel
theorem dX9_more_2 : decode cX9_more 2 = .ok (.getfield 150, 3) := by decide +kernel
theorem dX9_more_5 : decode cX9_more 5 = .ok (.ifCond .ne 12, 3) := by decide +kernel
theorem dX9_more_8 : decode cX9_more 8 = .ok (.aload_n 0, 1) := by decide +kernel
theorem dX9_more_9 : decode cX9_more 9 = .ok (.invokevirtual 142, 3) := by decide +kernel
theorem dX9_more_12 : decode cX9_more 12 = .ok (.bipush 44, 2) := by decide +kernel
theorem dX9_more_14 : decode cX9_more 14 = .ok (.if_icmp .eq 7, 3) := by decide +kernel
theorem dX9_more_17 : decode cX9_more 17 = .ok (.iconst 1, 1) := by decide +kernel
theorem dX9_more_18 : decode cX9_more 18 = .ok (.goto 4, 3) := by decide +kernel
theorem dX9_more_21 : decode cX9_more 21 = .ok (.iconst 0, 1) := by decide +kernel
theorem dX9_more_22 : decode cX9_more 22 = .ok (.putfield 150, 3) := by decide +kernel
theorem dX9_more_25 : decode cX9_more 25 = .ok (.aload_n 0, 1) := by decide +kernel
theorem dX9_more_26 : decode cX9_more 26 = .ok (.dup, 1) := by decide +kernel
theorem dX9_more_27 : decode cX9_more 27 = .ok (.getfield 139, 3) := by decide +kernel
theorem dX9_more_30 : decode cX9_more 30 = .ok (.iconst 1, 1) := by decide +kernel
theorem dX9_more_31 : decode cX9_more 31 = .ok (.iadd, 1) := by decide +kernel
theorem dX9_more_32 : decode cX9_more 32 = .ok (.putfield 139, 3) := by decide +kernel
theorem dX9_more_35 : decode cX9_more 35 = .ok (.aload_n 0, 1) := by decide +kernel
theorem dX9_more_36 : decode cX9_more 36 = .ok (.getfield 150, 3) := by decide +kernel
theorem dX9_more_39 : decode cX9_more 39 = .ok (.ifCond .eq 7, 3) := by decide +kernel
theorem dX9_more_42 : decode cX9_more 42 = .ok (.iconst 0, 1) := by decide +kernel
theorem dX9_more_43 : decode cX9_more 43 = .ok (.goto 9, 3) := by decide +kernel
theorem dX9_more_46 : decode cX9_more 46 = .ok (.aload_n 0, 1) := by decide +kernel
theorem dX9_more_47 : decode cX9_more 47 = .ok (.iload_n 1, 1) := by decide +kernel
theorem dX9_more_48 : decode cX9_more 48 = .ok (.iload_n 2, 1) := by decide +kernel
theorem dX9_more_49 : decode cX9_more 49 = .ok (.invokevirtual 154, 3) := by decide +kernel
theorem dX9_more_52 : decode cX9_more 52 = .ok (.ireturn, 1) := by decide +kernel
theorem dX9_manyTold_0 : decode cX9_manyTold 0 = .ok (.iconst 0, 1) := by decide +kernel
theorem dX9_manyTold_1 : decode cX9_manyTold 1 = .ok (.istore_n 2, 1) := by decide +kernel
theorem dX9_manyTold_2 : decode cX9_manyTold 2 = .ok (.iconst 0, 1) := by decide +kernel
theorem dX9_manyTold_3 : decode cX9_manyTold 3 = .ok (.istore_n 3, 1) := by decide +kernel
theorem dX9_manyTold_4 : decode cX9_manyTold 4 = .ok (.iload_n 3, 1) := by decide +kernel
theorem dX9_manyTold_5 : decode cX9_manyTold 5 = .ok (.aload_n 0, 1) := by decide +kernel
theorem dX9_manyTold_6 : decode cX9_manyTold 6 = .ok (.getfield 105, 3) := by decide +kernel
theorem dX9_manyTold_9 : decode cX9_manyTold 9 = .ok (.if_icmp .ge 37, 3) := by decide +kernel
theorem dX9_manyTold_12 : decode cX9_manyTold 12 = .ok (.iload_n 2, 1) := by decide +kernel
theorem dX9_manyTold_13 : decode cX9_manyTold 13 = .ok (.aload_n 0, 1) := by decide +kernel
theorem dX9_manyTold_14 : decode cX9_manyTold 14 = .ok (.getfield 34, 3) := by decide +kernel
theorem dX9_manyTold_17 : decode cX9_manyTold 17 = .ok (.iload_n 3, 1) := by decide +kernel
theorem dX9_manyTold_18 : decode cX9_manyTold 18 = .ok (.iaload, 1) := by decide +kernel
theorem dX9_manyTold_19 : decode cX9_manyTold 19 = .ok (.iload_n 1, 1) := by decide +kernel
theorem dX9_manyTold_20 : decode cX9_manyTold 20 = .ok (.if_icmp .eq 13, 3) := by decide +kernel
theorem dX9_manyTold_23 : decode cX9_manyTold 23 = .ok (.aload_n 0, 1) := by decide +kernel
theorem dX9_manyTold_24 : decode cX9_manyTold 24 = .ok (.getfield 37, 3) := by decide +kernel
theorem dX9_manyTold_27 : decode cX9_manyTold 27 = .ok (.iload_n 3, 1) := by decide +kernel
theorem dX9_manyTold_28 : decode cX9_manyTold 28 = .ok (.iaload, 1) := by decide +kernel
theorem dX9_manyTold_29 : decode cX9_manyTold 29 = .ok (.iload_n 1, 1) := by decide +kernel
theorem dX9_manyTold_30 : decode cX9_manyTold 30 = .ok (.if_icmp .ne 7, 3) := by decide +kernel
theorem dX9_manyTold_33 : decode cX9_manyTold 33 = .ok (.iconst 1, 1) := by decide +kernel
theorem dX9_manyTold_34 : decode cX9_manyTold 34 = .ok (.goto 4, 3) := by decide +kernel
theorem dX9_manyTold_37 : decode cX9_manyTold 37 = .ok (.iconst 0, 1) := by decide +kernel
theorem dX9_manyTold_38 : decode cX9_manyTold 38 = .ok (.iadd, 1) := by decide +kernel
theorem dX9_manyTold_39 : decode cX9_manyTold 39 = .ok (.istore_n 2, 1) := by decide +kernel
theorem dX9_manyTold_40 : decode cX9_manyTold 40 = .ok (.iinc 3 1, 3) := by decide +kernel
theorem dX9_manyTold_43 : decode cX9_manyTold 43 = .ok (.goto (-39), 3) := by decide +kernel
theorem dX9_manyTold_46 : decode cX9_manyTold 46 = .ok (.iload_n 2, 1) := by decide +kernel
theorem dX9_manyTold_47 : decode cX9_manyTold 47 = .ok (.ireturn, 1) := by decide +kernel
set_option maxRecDepth 20000 in
theorem ggX9_item_X9_number : GoodIn wsX9_item wsX9_number := goodIn_r _ [9, 10, 11, 12, 2, 13, 14, 15, 8, 16, 17, 18, 19, 20, 21, 49, 50, 51, 52, 53, 54, 55, 56, 57, 58, 59, 60, 61, 62, 63, 64, 65, 66, 67, 68, 69, 70, 71, 72, 73, 74, 75, 76, 77, 78, 79, 80, 81, 82, 83, 84, 85, 86] (by decide +kernel) (by decide +kernel)
set_option maxRecDepth 20000 in
theorem gX9_item_X9_number : GoodIn wsX9_item (wsV RX9 154 RX9 yX9_number wsX9_number) := goodIn_app (goodIn_of _ (by decide +kernel)) ggX9_item_X9_number
set_option maxRecDepth 20000 in
theorem ggX9_item_X9_more : GoodIn wsX9_item wsX9_more := goodIn_r _ [25, 2, 12, 13, 14, 15, 8, 16, 17, 18, 5, 6, 7, 9, 10, 11, 19, 20, 21, 49, 50, 51, 52, 53, 54, 55, 56, 57, 58, 59, 60, 61, 62, 63, 64, 65, 66, 67, 68, 69, 70, 71, 72, 73, 74, 75, 76, 77, 78, 79, 80, 81, 82, 83, 84, 85, 86] (by decide +kernel) (by decide +kernel)
set_option maxRecDepth 20000 in
theorem gX9_item_X9_more : GoodIn wsX9_item (wsV RX9 158 RX9 yX9_more wsX9_more) := goodIn_app (goodIn_of _ (by decide +kernel)) ggX9_item_X9_more
set_option maxRecDepth 20000 in
theorem ggX9_item_X9_lives : GoodIn wsX9_item wsX9_lives := goodIn_r _ [29, 30, 1, 31, 32, 49, 50, 51, 52, 53, 54, 55, 56, 57, 58, 59, 60, 61, 62, 63, 64, 65, 66, 67, 68, 69, 70, 71, 72, 73, 74, 75, 76, 77, 78, 79, 80, 81, 82, 83, 84, 85, 86] (by decide +kernel) (by decide +kernel)
set_option maxRecDepth 20000 in
theorem gX9_item_X9_lives : GoodIn wsX9_item (wsV RX9 80 RX9 yX9_lives wsX9_lives) := goodIn_app (goodIn_of _ (by decide +kernel)) ggX9_item_X9_lives
set_option maxRecDepth 20000 in
theorem ggX9_item_X9_manyTold : GoodIn wsX9_item wsX9_manyTold := goodIn_r _ [36, 3, 37, 38, 49, 50, 51, 52, 53, 54, 55, 56, 57, 58, 59, 60, 61, 62, 63, 64, 65, 66, 67, 68, 69, 70, 71, 72, 73, 74, 75, 76, 77, 78, 79, 80, 81, 82, 83, 84, 85, 86] (by decide +kernel) (by decide +kernel)
set_option maxRecDepth 20000 in
theorem gX9_item_X9_manyTold : GoodIn wsX9_item (wsV RX9 161 RX9 yX9_manyTold wsX9_manyTold) := goodIn_app (goodIn_of _ (by decide +kernel)) ggX9_item_X9_manyTold
set_option maxRecDepth 20000 in
theorem ggX9_item_X9_stands : GoodIn wsX9_item wsX9_stands := goodIn_r _ [42, 37, 3, 38, 49, 50, 51, 52, 53, 54, 55, 56, 57, 58, 59, 60, 61, 62, 63, 64, 65, 66, 67, 68, 69, 70, 71, 72, 73, 74, 75, 76, 77, 78, 79, 80, 81, 82, 83, 84, 85, 86] (by decide +kernel) (by decide +kernel)
set_option maxRecDepth 20000 in
theorem gX9_item_X9_stands : GoodIn wsX9_item (wsV RX9 84 RX9 yX9_stands wsX9_stands) := goodIn_app (goodIn_of _ (by decide +kernel)) ggX9_item_X9_stands
set_option maxRecDepth 20000 in
theorem ggX9_item_X9_grows : GoodIn wsX9_item wsX9_grows := goodIn_r _ [46, 47, 4, 48, 49, 50, 51, 52, 53, 54, 55, 56, 57, 58, 59, 60, 61, 62, 63, 64, 65, 66, 67, 68, 69, 70, 71, 72, 73, 74, 75, 76, 77, 78, 79, 80, 81, 82, 83, 84, 85, 86] (by decide +kernel) (by decide +kernel)
set_option maxRecDepth 20000 in
theorem gX9_item_X9_grows : GoodIn wsX9_item (wsV RX9 88 RX9 yX9_grows wsX9_grows) := goodIn_app (goodIn_of _ (by decide +kernel)) ggX9_item_X9_grows
theorem dX9_item_0 : decode cX9_item 0 = .ok (.iload_n 1, 1) := by decide +kernel
theorem dX9_item_1 : decode cX9_item 1 = .ok (.bipush 102, 2) := by decide +kernel
theorem dX9_item_3 : decode cX9_item 3 = .ok (.if_icmp .ne 77, 3) := by decide +kernel
theorem dX9_item_6 : decode cX9_item 6 = .ok (.aload_n 0, 1) := by decide +kernel
theorem dX9_item_7 : decode cX9_item 7 = .ok (.aload_n 0, 1) := by decide +kernel
theorem dX9_item_8 : decode cX9_item 8 = .ok (.getfield 102, 3) := by decide +kernel
theorem dX9_item_11 : decode cX9_item 11 = .ok (.bipush 6, 2) := by decide +kernel
theorem dX9_item_13 : decode cX9_item 13 = .ok (.if_icmp .ne 7, 3) := by decide +kernel
theorem dX9_item_16 : decode cX9_item 16 = .ok (.iconst 1, 1) := by decide +kernel
theorem dX9_item_17 : decode cX9_item 17 = .ok (.goto 4, 3) := by decide +kernel
theorem dX9_item_20 : decode cX9_item 20 = .ok (.iconst 0, 1) := by decide +kernel
theorem dX9_item_21 : decode cX9_item 21 = .ok (.putfield 150, 3) := by decide +kernel
theorem dX9_item_24 : decode cX9_item 24 = .ok (.aload_n 0, 1) := by decide +kernel
theorem dX9_item_25 : decode cX9_item 25 = .ok (.getfield 150, 3) := by decide +kernel
theorem dX9_item_28 : decode cX9_item 28 = .ok (.ifCond .eq 7, 3) := by decide +kernel
theorem dX9_item_31 : decode cX9_item 31 = .ok (.iconst 0, 1) := by decide +kernel
theorem dX9_item_32 : decode cX9_item 32 = .ok (.goto 9, 3) := by decide +kernel
theorem dX9_item_35 : decode cX9_item 35 = .ok (.aload_n 0, 1) := by decide +kernel
theorem dX9_item_36 : decode cX9_item 36 = .ok (.iconst 0, 1) := by decide +kernel
theorem dX9_item_37 : decode cX9_item 37 = .ok (.iconst 4, 1) := by decide +kernel
theorem dX9_item_38 : decode cX9_item 38 = .ok (.invokevirtual 154, 3) := by decide +kernel
theorem dX9_item_41 : decode cX9_item 41 = .ok (.istore_n 2, 1) := by decide +kernel
theorem dX9_item_42 : decode cX9_item 42 = .ok (.aload_n 0, 1) := by decide +kernel
theorem dX9_item_43 : decode cX9_item 43 = .ok (.iconst 0, 1) := by decide +kernel
theorem dX9_item_44 : decode cX9_item 44 = .ok (.bipush 12, 2) := by decide +kernel
theorem dX9_item_46 : decode cX9_item 46 = .ok (.invokevirtual 158, 3) := by decide +kernel
theorem dX9_item_49 : decode cX9_item 49 = .ok (.istore_n 3, 1) := by decide +kernel
theorem dX9_item_50 : decode cX9_item 50 = .ok (.aload_n 0, 1) := by decide +kernel
theorem dX9_item_51 : decode cX9_item 51 = .ok (.iconst 0, 1) := by decide +kernel
theorem dX9_item_52 : decode cX9_item 52 = .ok (.bipush 99, 2) := by decide +kernel
theorem dX9_item_54 : decode cX9_item 54 = .ok (.invokevirtual 158, 3) := by decide +kernel
theorem dX9_item_57 : decode cX9_item 57 = .ok (.istore 4, 2) := by decide +kernel
theorem dX9_item_59 : decode cX9_item 59 = .ok (.aload_n 0, 1) := by decide +kernel
theorem dX9_item_60 : decode cX9_item 60 = .ok (.getfield 150, 3) := by decide +kernel
theorem dX9_item_63 : decode cX9_item 63 = .ok (.ifCond .ne 14, 3) := by decide +kernel
theorem dX9_item_66 : decode cX9_item 66 = .ok (.aload_n 0, 1) := by decide +kernel
theorem dX9_item_67 : decode cX9_item 67 = .ok (.sipush 385, 3) := by decide +kernel
theorem dX9_item_70 : decode cX9_item 70 = .ok (.iload_n 2, 1) := by decide +kernel
theorem dX9_item_71 : decode cX9_item 71 = .ok (.iload_n 3, 1) := by decide +kernel
theorem dX9_item_72 : decode cX9_item 72 = .ok (.iload 4, 2) := by decide +kernel
theorem dX9_item_74 : decode cX9_item 74 = .ok (.invokevirtual 80, 3) := by decide +kernel
theorem dX9_item_77 : decode cX9_item 77 = .ok (.goto 193, 3) := by decide +kernel
theorem dX9_item_80 : decode cX9_item 80 = .ok (.iload_n 1, 1) := by decide +kernel
theorem dX9_item_81 : decode cX9_item 81 = .ok (.bipush 119, 2) := by decide +kernel
theorem dX9_item_83 : decode cX9_item 83 = .ok (.if_icmp .ne 111, 3) := by decide +kernel
theorem dX9_item_86 : decode cX9_item 86 = .ok (.aload_n 0, 1) := by decide +kernel
theorem dX9_item_87 : decode cX9_item 87 = .ok (.aload_n 0, 1) := by decide +kernel
theorem dX9_item_88 : decode cX9_item 88 = .ok (.getfield 105, 3) := by decide +kernel
theorem dX9_item_91 : decode cX9_item 91 = .ok (.bipush 8, 2) := by decide +kernel
theorem dX9_item_93 : decode cX9_item 93 = .ok (.if_icmp .ne 7, 3) := by decide +kernel
theorem dX9_item_96 : decode cX9_item 96 = .ok (.iconst 1, 1) := by decide +kernel
theorem dX9_item_97 : decode cX9_item 97 = .ok (.goto 4, 3) := by decide +kernel
theorem dX9_item_100 : decode cX9_item 100 = .ok (.iconst 0, 1) := by decide +kernel
theorem dX9_item_101 : decode cX9_item 101 = .ok (.putfield 150, 3) := by decide +kernel
theorem dX9_item_104 : decode cX9_item 104 = .ok (.aload_n 0, 1) := by decide +kernel
theorem dX9_item_105 : decode cX9_item 105 = .ok (.getfield 150, 3) := by decide +kernel
theorem dX9_item_108 : decode cX9_item 108 = .ok (.ifCond .eq 7, 3) := by decide +kernel
theorem dX9_item_111 : decode cX9_item 111 = .ok (.iconst 0, 1) := by decide +kernel
theorem dX9_item_112 : decode cX9_item 112 = .ok (.goto 14, 3) := by decide +kernel
theorem dX9_item_115 : decode cX9_item 115 = .ok (.aload_n 0, 1) := by decide +kernel
theorem dX9_item_116 : decode cX9_item 116 = .ok (.iconst 0, 1) := by decide +kernel
theorem dX9_item_117 : decode cX9_item 117 = .ok (.aload_n 0, 1) := by decide +kernel
theorem dX9_item_118 : decode cX9_item 118 = .ok (.getfield 102, 3) := by decide +kernel
theorem dX9_item_121 : decode cX9_item 121 = .ok (.iconst 1, 1) := by decide +kernel
theorem dX9_item_122 : decode cX9_item 122 = .ok (.isub, 1) := by decide +kernel
theorem dX9_item_123 : decode cX9_item 123 = .ok (.invokevirtual 154, 3) := by decide +kernel
theorem dX9_item_126 : decode cX9_item 126 = .ok (.istore_n 2, 1) := by decide +kernel
theorem dX9_item_127 : decode cX9_item 127 = .ok (.aload_n 0, 1) := by decide +kernel
theorem dX9_item_128 : decode cX9_item 128 = .ok (.iconst 0, 1) := by decide +kernel
theorem dX9_item_129 : decode cX9_item 129 = .ok (.aload_n 0, 1) := by decide +kernel
theorem dX9_item_130 : decode cX9_item 130 = .ok (.getfield 102, 3) := by decide +kernel
theorem dX9_item_133 : decode cX9_item 133 = .ok (.iconst 1, 1) := by decide +kernel
theorem dX9_item_134 : decode cX9_item 134 = .ok (.isub, 1) := by decide +kernel
theorem dX9_item_135 : decode cX9_item 135 = .ok (.invokevirtual 158, 3) := by decide +kernel
theorem dX9_item_138 : decode cX9_item 138 = .ok (.istore_n 3, 1) := by decide +kernel
theorem dX9_item_139 : decode cX9_item 139 = .ok (.aload_n 0, 1) := by decide +kernel
theorem dX9_item_140 : decode cX9_item 140 = .ok (.aload_n 0, 1) := by decide +kernel
theorem dX9_item_141 : decode cX9_item 141 = .ok (.getfield 150, 3) := by decide +kernel
theorem dX9_item_144 : decode cX9_item 144 = .ok (.ifCond .ne 26, 3) := by decide +kernel
theorem dX9_item_147 : decode cX9_item 147 = .ok (.iload_n 2, 1) := by decide +kernel
theorem dX9_item_148 : decode cX9_item 148 = .ok (.iload_n 3, 1) := by decide +kernel
theorem dX9_item_149 : decode cX9_item 149 = .ok (.if_icmp .eq 21, 3) := by decide +kernel
theorem dX9_item_152 : decode cX9_item 152 = .ok (.aload_n 0, 1) := by decide +kernel
theorem dX9_item_153 : decode cX9_item 153 = .ok (.iload_n 2, 1) := by decide +kernel
theorem dX9_item_154 : decode cX9_item 154 = .ok (.invokevirtual 161, 3) := by decide +kernel
theorem dX9_item_157 : decode cX9_item 157 = .ok (.iconst 4, 1) := by decide +kernel
theorem dX9_item_158 : decode cX9_item 158 = .ok (.if_icmp .eq 12, 3) := by decide +kernel
theorem dX9_item_161 : decode cX9_item 161 = .ok (.aload_n 0, 1) := by decide +kernel
theorem dX9_item_162 : decode cX9_item 162 = .ok (.iload_n 3, 1) := by decide +kernel
theorem dX9_item_163 : decode cX9_item 163 = .ok (.invokevirtual 161, 3) := by decide +kernel
theorem dX9_item_166 : decode cX9_item 166 = .ok (.iconst 4, 1) := by decide +kernel
theorem dX9_item_167 : decode cX9_item 167 = .ok (.if_icmp .ne 7, 3) := by decide +kernel
theorem dX9_item_170 : decode cX9_item 170 = .ok (.iconst 1, 1) := by decide +kernel
theorem dX9_item_171 : decode cX9_item 171 = .ok (.goto 4, 3) := by decide +kernel
theorem dX9_item_174 : decode cX9_item 174 = .ok (.iconst 0, 1) := by decide +kernel
theorem dX9_item_175 : decode cX9_item 175 = .ok (.putfield 150, 3) := by decide +kernel
theorem dX9_item_178 : decode cX9_item 178 = .ok (.aload_n 0, 1) := by decide +kernel
theorem dX9_item_179 : decode cX9_item 179 = .ok (.getfield 150, 3) := by decide +kernel
theorem dX9_item_182 : decode cX9_item 182 = .ok (.ifCond .ne 9, 3) := by decide +kernel
theorem dX9_item_185 : decode cX9_item 185 = .ok (.aload_n 0, 1) := by decide +kernel
theorem dX9_item_186 : decode cX9_item 186 = .ok (.iload_n 2, 1) := by decide +kernel
theorem dX9_item_187 : decode cX9_item 187 = .ok (.iload_n 3, 1) := by decide +kernel
theorem dX9_item_188 : decode cX9_item 188 = .ok (.invokevirtual 84, 3) := by decide +kernel
theorem dX9_item_191 : decode cX9_item 191 = .ok (.goto 79, 3) := by decide +kernel
theorem dX9_item_194 : decode cX9_item 194 = .ok (.iload_n 1, 1) := by decide +kernel
theorem dX9_item_195 : decode cX9_item 195 = .ok (.bipush 116, 2) := by decide +kernel
theorem dX9_item_197 : decode cX9_item 197 = .ok (.if_icmp .ne 68, 3) := by decide +kernel
theorem dX9_item_200 : decode cX9_item 200 = .ok (.aload_n 0, 1) := by decide +kernel
theorem dX9_item_201 : decode cX9_item 201 = .ok (.aload_n 0, 1) := by decide +kernel
theorem dX9_item_202 : decode cX9_item 202 = .ok (.getfield 108, 3) := by decide +kernel
theorem dX9_item_205 : decode cX9_item 205 = .ok (.bipush 6, 2) := by decide +kernel
theorem dX9_item_207 : decode cX9_item 207 = .ok (.if_icmp .ne 7, 3) := by decide +kernel
theorem dX9_item_210 : decode cX9_item 210 = .ok (.iconst 1, 1) := by decide +kernel
theorem dX9_item_211 : decode cX9_item 211 = .ok (.goto 4, 3) := by decide +kernel
theorem dX9_item_214 : decode cX9_item 214 = .ok (.iconst 0, 1) := by decide +kernel
theorem dX9_item_215 : decode cX9_item 215 = .ok (.putfield 150, 3) := by decide +kernel
theorem dX9_item_218 : decode cX9_item 218 = .ok (.aload_n 0, 1) := by decide +kernel
theorem dX9_item_219 : decode cX9_item 219 = .ok (.getfield 150, 3) := by decide +kernel
theorem dX9_item_222 : decode cX9_item 222 = .ok (.ifCond .eq 7, 3) := by decide +kernel
theorem dX9_item_225 : decode cX9_item 225 = .ok (.iconst 0, 1) := by decide +kernel
theorem dX9_item_226 : decode cX9_item 226 = .ok (.goto 14, 3) := by decide +kernel
theorem dX9_item_229 : decode cX9_item 229 = .ok (.aload_n 0, 1) := by decide +kernel
theorem dX9_item_230 : decode cX9_item 230 = .ok (.iconst 0, 1) := by decide +kernel
theorem dX9_item_231 : decode cX9_item 231 = .ok (.aload_n 0, 1) := by decide +kernel
theorem dX9_item_232 : decode cX9_item 232 = .ok (.getfield 105, 3) := by decide +kernel
theorem dX9_item_235 : decode cX9_item 235 = .ok (.iconst 1, 1) := by decide +kernel
theorem dX9_item_236 : decode cX9_item 236 = .ok (.isub, 1) := by decide +kernel
theorem dX9_item_237 : decode cX9_item 237 = .ok (.invokevirtual 154, 3) := by decide +kernel
theorem dX9_item_240 : decode cX9_item 240 = .ok (.istore_n 2, 1) := by decide +kernel
theorem dX9_item_241 : decode cX9_item 241 = .ok (.aload_n 0, 1) := by decide +kernel
theorem dX9_item_242 : decode cX9_item 242 = .ok (.iconst 0, 1) := by decide +kernel
theorem dX9_item_243 : decode cX9_item 243 = .ok (.bipush 40, 2) := by decide +kernel
theorem dX9_item_245 : decode cX9_item 245 = .ok (.invokevirtual 158, 3) := by decide +kernel
theorem dX9_item_248 : decode cX9_item 248 = .ok (.istore_n 3, 1) := by decide +kernel
theorem dX9_item_249 : decode cX9_item 249 = .ok (.aload_n 0, 1) := by decide +kernel
theorem dX9_item_250 : decode cX9_item 250 = .ok (.getfield 150, 3) := by decide +kernel
theorem dX9_item_253 : decode cX9_item 253 = .ok (.ifCond .ne 9, 3) := by decide +kernel
theorem dX9_item_256 : decode cX9_item 256 = .ok (.aload_n 0, 1) := by decide +kernel
theorem dX9_item_257 : decode cX9_item 257 = .ok (.iload_n 2, 1) := by decide +kernel
theorem dX9_item_258 : decode cX9_item 258 = .ok (.iload_n 3, 1) := by decide +kernel
theorem dX9_item_259 : decode cX9_item 259 = .ok (.invokevirtual 88, 3) := by decide +kernel
theorem dX9_item_262 : decode cX9_item 262 = .ok (.goto 8, 3) := by decide +kernel
theorem dX9_item_265 : decode cX9_item 265 = .ok (.aload_n 0, 1) := by decide +kernel
theorem dX9_item_266 : decode cX9_item 266 = .ok (.iconst 1, 1) := by decide +kernel
theorem dX9_item_267 : decode cX9_item 267 = .ok (.putfield 150, 3) := by decide +kernel
theorem dX9_item_270 : decode cX9_item 270 = .ok (.return_, 1) := by decide +kernel
set_option maxRecDepth 20000 in
theorem ggX9_reads_X9_next : GoodIn wsX9_reads wsX9_next := goodIn_r _ [13, 5, 7, 14, 54, 55, 56, 57, 58, 59, 60, 61, 62, 63, 64, 65, 66, 67, 68, 69, 70, 71, 72, 73, 74, 75, 76, 77, 78, 79, 80, 81, 82, 83, 84, 85, 86, 87, 88, 89, 90, 91] (by decide +kernel) (by decide +kernel)
set_option maxRecDepth 20000 in
theorem gX9_reads_X9_next : GoodIn wsX9_reads (wsV RX9 142 RX9 yX9_next wsX9_next) := goodIn_app (goodIn_of _ (by decide +kernel)) ggX9_reads_X9_next
set_option maxRecDepth 20000 in
theorem ggX9_reads_X9_item : GoodIn wsX9_reads wsX9_item := goodIn_r _ [18, 1, 6, 2, 3, 19, 20, 21, 12, 22, 23, 24, 5, 9, 10, 11, 13, 7, 14, 25, 26, 27, 28, 29, 30, 31, 32, 33, 34, 35, 36, 37, 4, 38, 39, 40, 41, 42, 43, 44, 45, 46, 47, 48, 49, 50, 51, 52, 53, 54, 55, 56, 57, 58, 59, 60, 61, 62, 63, 64, 65, 66, 67, 68, 69, 70, 71, 72, 73, 74, 75, 76, 77, 78, 79, 80, 81, 82, 83, 84, 85, 86, 87, 88, 89, 90, 91] (by decide +kernel) (by decide +kernel)
set_option maxRecDepth 20000 in
theorem gX9_reads_X9_item : GoodIn wsX9_reads (wsV RX9 167 RX9 yX9_item wsX9_item) := goodIn_app (goodIn_of _ (by decide +kernel)) ggX9_reads_X9_item
theorem dX9_reads_0 : decode cX9_reads 0 = .ok (.aload_n 0, 1) := by decide +kernel
theorem dX9_reads_1 : decode cX9_reads 1 = .ok (.iconst 0, 1) := by decide +kernel
theorem dX9_reads_2 : decode cX9_reads 2 = .ok (.putfield 102, 3) := by decide +kernel
theorem dX9_reads_5 : decode cX9_reads 5 = .ok (.aload_n 0, 1) := by decide +kernel
theorem dX9_reads_6 : decode cX9_reads 6 = .ok (.iconst 0, 1) := by decide +kernel
theorem dX9_reads_7 : decode cX9_reads 7 = .ok (.putfield 105, 3) := by decide +kernel
theorem dX9_reads_10 : decode cX9_reads 10 = .ok (.aload_n 0, 1) := by decide +kernel
theorem dX9_reads_11 : decode cX9_reads 11 = .ok (.iconst 0, 1) := by decide +kernel
theorem dX9_reads_12 : decode cX9_reads 12 = .ok (.putfield 108, 3) := by decide +kernel
theorem dX9_reads_15 : decode cX9_reads 15 = .ok (.iconst 0, 1) := by decide +kernel
theorem dX9_reads_16 : decode cX9_reads 16 = .ok (.istore_n 1, 1) := by decide +kernel
theorem dX9_reads_17 : decode cX9_reads 17 = .ok (.iload_n 1, 1) := by decide +kernel
theorem dX9_reads_18 : decode cX9_reads 18 = .ok (.bipush 35, 2) := by decide +kernel
theorem dX9_reads_20 : decode cX9_reads 20 = .ok (.if_icmp .ge 20, 3) := by decide +kernel
theorem dX9_reads_23 : decode cX9_reads 23 = .ok (.aload_n 0, 1) := by decide +kernel
theorem dX9_reads_24 : decode cX9_reads 24 = .ok (.getfield 46, 3) := by decide +kernel
theorem dX9_reads_27 : decode cX9_reads 27 = .ok (.sipush 385, 3) := by decide +kernel
theorem dX9_reads_30 : decode cX9_reads 30 = .ok (.iload_n 1, 1) := by decide +kernel
theorem dX9_reads_31 : decode cX9_reads 31 = .ok (.iadd, 1) := by decide +kernel
theorem dX9_reads_32 : decode cX9_reads 32 = .ok (.iconst 0, 1) := by decide +kernel
theorem dX9_reads_33 : decode cX9_reads 33 = .ok (.iastore, 1) := by decide +kernel
theorem dX9_reads_34 : decode cX9_reads 34 = .ok (.iinc 1 1, 3) := by decide +kernel
theorem dX9_reads_37 : decode cX9_reads 37 = .ok (.goto (-20), 3) := by decide +kernel
theorem dX9_reads_40 : decode cX9_reads 40 = .ok (.aload_n 0, 1) := by decide +kernel
theorem dX9_reads_41 : decode cX9_reads 41 = .ok (.iconst 0, 1) := by decide +kernel
theorem dX9_reads_42 : decode cX9_reads 42 = .ok (.putfield 139, 3) := by decide +kernel
theorem dX9_reads_45 : decode cX9_reads 45 = .ok (.aload_n 0, 1) := by decide +kernel
theorem dX9_reads_46 : decode cX9_reads 46 = .ok (.iconst 0, 1) := by decide +kernel
theorem dX9_reads_47 : decode cX9_reads 47 = .ok (.putfield 150, 3) := by decide +kernel
theorem dX9_reads_50 : decode cX9_reads 50 = .ok (.aload_n 0, 1) := by decide +kernel
theorem dX9_reads_51 : decode cX9_reads 51 = .ok (.getfield 139, 3) := by decide +kernel
theorem dX9_reads_54 : decode cX9_reads 54 = .ok (.aload_n 0, 1) := by decide +kernel
theorem dX9_reads_55 : decode cX9_reads 55 = .ok (.getfield 136, 3) := by decide +kernel
theorem dX9_reads_58 : decode cX9_reads 58 = .ok (.if_icmp .ge 76, 3) := by decide +kernel
theorem dX9_reads_61 : decode cX9_reads 61 = .ok (.aload_n 0, 1) := by decide +kernel
theorem dX9_reads_62 : decode cX9_reads 62 = .ok (.getfield 150, 3) := by decide +kernel
theorem dX9_reads_65 : decode cX9_reads 65 = .ok (.ifCond .ne 69, 3) := by decide +kernel
theorem dX9_reads_68 : decode cX9_reads 68 = .ok (.aload_n 0, 1) := by decide +kernel
theorem dX9_reads_69 : decode cX9_reads 69 = .ok (.aload_n 0, 1) := by decide +kernel
theorem dX9_reads_70 : decode cX9_reads 70 = .ok (.getfield 139, 3) := by decide +kernel
theorem dX9_reads_73 : decode cX9_reads 73 = .ok (.putfield 164, 3) := by decide +kernel
theorem dX9_reads_76 : decode cX9_reads 76 = .ok (.aload_n 0, 1) := by decide +kernel
theorem dX9_reads_77 : decode cX9_reads 77 = .ok (.invokevirtual 142, 3) := by decide +kernel
theorem dX9_reads_80 : decode cX9_reads 80 = .ok (.istore_n 1, 1) := by decide +kernel
theorem dX9_reads_81 : decode cX9_reads 81 = .ok (.aload_n 0, 1) := by decide +kernel
theorem dX9_reads_82 : decode cX9_reads 82 = .ok (.dup, 1) := by decide +kernel
theorem dX9_reads_83 : decode cX9_reads 83 = .ok (.getfield 139, 3) := by decide +kernel
theorem dX9_reads_86 : decode cX9_reads 86 = .ok (.iconst 1, 1) := by decide +kernel
theorem dX9_reads_87 : decode cX9_reads 87 = .ok (.iadd, 1) := by decide +kernel
theorem dX9_reads_88 : decode cX9_reads 88 = .ok (.putfield 139, 3) := by decide +kernel
theorem dX9_reads_91 : decode cX9_reads 91 = .ok (.aload_n 0, 1) := by decide +kernel
theorem dX9_reads_92 : decode cX9_reads 92 = .ok (.iload_n 1, 1) := by decide +kernel
theorem dX9_reads_93 : decode cX9_reads 93 = .ok (.invokevirtual 167, 3) := by decide +kernel
theorem dX9_reads_96 : decode cX9_reads 96 = .ok (.aload_n 0, 1) := by decide +kernel
theorem dX9_reads_97 : decode cX9_reads 97 = .ok (.aload_n 0, 1) := by decide +kernel
theorem dX9_reads_98 : decode cX9_reads 98 = .ok (.getfield 150, 3) := by decide +kernel
theorem dX9_reads_101 : decode cX9_reads 101 = .ok (.ifCond .ne 12, 3) := by decide +kernel
theorem dX9_reads_104 : decode cX9_reads 104 = .ok (.aload_n 0, 1) := by decide +kernel
theorem dX9_reads_105 : decode cX9_reads 105 = .ok (.invokevirtual 142, 3) := by decide +kernel
theorem dX9_reads_108 : decode cX9_reads 108 = .ok (.bipush 59, 2) := by decide +kernel
theorem dX9_reads_110 : decode cX9_reads 110 = .ok (.if_icmp .eq 7, 3) := by decide +kernel
theorem dX9_reads_113 : decode cX9_reads 113 = .ok (.iconst 1, 1) := by decide +kernel
theorem dX9_reads_114 : decode cX9_reads 114 = .ok (.goto 4, 3) := by decide +kernel
theorem dX9_reads_117 : decode cX9_reads 117 = .ok (.iconst 0, 1) := by decide +kernel
theorem dX9_reads_118 : decode cX9_reads 118 = .ok (.putfield 150, 3) := by decide +kernel
theorem dX9_reads_121 : decode cX9_reads 121 = .ok (.aload_n 0, 1) := by decide +kernel
theorem dX9_reads_122 : decode cX9_reads 122 = .ok (.dup, 1) := by decide +kernel
theorem dX9_reads_123 : decode cX9_reads 123 = .ok (.getfield 139, 3) := by decide +kernel
theorem dX9_reads_126 : decode cX9_reads 126 = .ok (.iconst 1, 1) := by decide +kernel
theorem dX9_reads_127 : decode cX9_reads 127 = .ok (.iadd, 1) := by decide +kernel
theorem dX9_reads_128 : decode cX9_reads 128 = .ok (.putfield 139, 3) := by decide +kernel
theorem dX9_reads_131 : decode cX9_reads 131 = .ok (.goto (-81), 3) := by decide +kernel
theorem dX9_reads_134 : decode cX9_reads 134 = .ok (.aload_n 0, 1) := by decide +kernel
theorem dX9_reads_135 : decode cX9_reads 135 = .ok (.getfield 150, 3) := by decide +kernel
theorem dX9_reads_138 : decode cX9_reads 138 = .ok (.ifCond .ne 7, 3) := by decide +kernel
theorem dX9_reads_141 : decode cX9_reads 141 = .ok (.iconst 1, 1) := by decide +kernel
theorem dX9_reads_142 : decode cX9_reads 142 = .ok (.goto 4, 3) := by decide +kernel
theorem dX9_reads_145 : decode cX9_reads 145 = .ok (.iconst 0, 1) := by decide +kernel
theorem dX9_reads_146 : decode cX9_reads 146 = .ok (.ireturn, 1) := by decide +kernel
set_option maxRecDepth 20000 in
theorem ggX9_fault_X9_reads : GoodIn wsX9_fault wsX9_reads := goodIn_r _ [6, 7, 8, 9, 10, 11, 12, 13, 1, 14, 15, 16, 5, 17, 18, 19, 20, 21, 22, 23, 24, 25, 26, 27, 28, 29, 30, 31, 32, 33, 34, 35, 36, 37, 38, 39, 40, 41, 42, 43, 44, 45, 46, 47, 48, 49, 50, 51, 52, 53, 54, 55, 56, 57, 58, 59, 60, 61, 62, 63, 64, 65, 66, 67, 68, 69, 70, 71, 72, 73, 74, 75, 76, 77, 78, 79, 80, 81, 82, 83, 84, 85, 86, 87, 88, 89, 90, 91, 92, 93, 94, 95] (by decide +kernel) (by decide +kernel)
set_option maxRecDepth 20000 in
theorem gX9_fault_X9_reads : GoodIn wsX9_fault (wsV RX9 171 RX9 yX9_reads wsX9_reads) := goodIn_app (goodIn_of _ (by decide +kernel)) ggX9_fault_X9_reads
theorem dX9_fault_0 : decode cX9_fault 0 = .ok (.aload_n 0, 1) := by decide +kernel
theorem dX9_fault_1 : decode cX9_fault 1 = .ok (.invokevirtual 171, 3) := by decide +kernel
theorem dX9_fault_4 : decode cX9_fault 4 = .ok (.ifCond .eq 8, 3) := by decide +kernel
theorem dX9_fault_7 : decode cX9_fault 7 = .ok (.bipush (-4), 2) := by decide +kernel
theorem dX9_fault_9 : decode cX9_fault 9 = .ok (.goto 7, 3) := by decide +kernel
theorem dX9_fault_12 : decode cX9_fault 12 = .ok (.aload_n 0, 1) := by decide +kernel
theorem dX9_fault_13 : decode cX9_fault 13 = .ok (.getfield 164, 3) := by decide +kernel
theorem dX9_fault_16 : decode cX9_fault 16 = .ok (.ireturn, 1) := by decide +kernel
set_option maxRecDepth 20000 in
theorem ggX9_lay_X9_reads : GoodIn wsX9_lay wsX9_reads := goodIn_r _ [11, 1, 12, 13, 14, 15, 16, 17, 18, 19, 20, 21, 10, 22, 23, 24, 25, 26, 27, 28, 29, 30, 31, 32, 33, 34, 35, 36, 37, 38, 39, 40, 41, 42, 43, 44, 45, 46, 47, 48, 49, 50, 51, 52, 53, 54, 55, 56, 57, 58, 59, 60, 61, 62, 94, 95, 96, 97, 98, 99, 100, 101, 102, 103, 104, 105, 106, 107, 108, 109, 110, 111, 112, 113, 114, 115, 116, 117, 118, 119, 120, 121, 122, 123, 124, 125, 126, 127, 128, 129, 130, 131] (by decide +kernel) (by decide +kernel)
set_option maxRecDepth 20000 in
theorem gX9_lay_X9_reads : GoodIn wsX9_lay (wsV RX9 171 RX9 yX9_reads wsX9_reads) := goodIn_app (goodIn_of _ (by decide +kernel)) ggX9_lay_X9_reads
set_option maxRecDepth 20000 in
theorem ggX9_lay_X9_settles : GoodIn wsX9_lay wsX9_settles := goodIn_r _ [66, 1, 2, 12, 67, 13, 68, 69, 45, 3, 46, 70, 61, 71, 62, 72, 51, 73, 52, 94, 95, 96, 97, 98, 99, 100, 101, 102, 103, 104, 105, 106, 107, 108, 109, 110, 111, 112, 113, 114, 115, 116, 117, 118, 119, 120, 121, 122, 123, 124, 125, 126, 127, 128, 129, 130, 131] (by decide +kernel) (by decide +kernel)
set_option maxRecDepth 20000 in
theorem gX9_lay_X9_settles : GoodIn wsX9_lay (wsV RX9 91 RX9 yX9_settles wsX9_settles) := goodIn_app (goodIn_of _ (by decide +kernel)) ggX9_lay_X9_settles
set_option maxRecDepth 20000 in
theorem ggX9_lay_X9_copies : GoodIn wsX9_lay wsX9_copies := goodIn_r _ [77, 14, 94, 95, 96, 97, 98, 99, 100, 101, 102, 103, 104, 105, 106, 107, 108, 109, 110, 111, 112, 113, 114, 115, 116, 117, 118, 119, 120, 121, 122, 123, 124, 125, 126, 127, 128, 129, 130, 131] (by decide +kernel) (by decide +kernel)
set_option maxRecDepth 20000 in
theorem gX9_lay_X9_copies : GoodIn wsX9_lay (wsV RX9 175 RX9 yX9_copies wsX9_copies) := goodIn_app (goodIn_of _ (by decide +kernel)) ggX9_lay_X9_copies
set_option maxRecDepth 20000 in
theorem ggX9_lay_X9_evenly : GoodIn wsX9_lay wsX9_evenly := goodIn_r _ [81, 67, 82, 83, 84, 10, 85, 86, 87, 88, 89, 72, 73, 90, 91, 92, 93, 14, 94, 95, 96, 97, 98, 99, 100, 101, 102, 103, 104, 105, 106, 107, 108, 109, 110, 111, 112, 113, 114, 115, 116, 117, 118, 119, 120, 121, 122, 123, 124, 125, 126, 127, 128, 129, 130, 131] (by decide +kernel) (by decide +kernel)
set_option maxRecDepth 20000 in
theorem gX9_lay_X9_evenly : GoodIn wsX9_lay (wsV RX9 98 RX9 yX9_evenly wsX9_evenly) := goodIn_app (goodIn_of _ (by decide +kernel)) ggX9_lay_X9_evenly
theorem dX9_lay_0 : decode cX9_lay 0 = .ok (.aload_n 0, 1) := by decide +kernel
theorem dX9_lay_1 : decode cX9_lay 1 = .ok (.invokevirtual 171, 3) := by decide +kernel
theorem dX9_lay_4 : decode cX9_lay 4 = .ok (.ifCond .eq 10, 3) := by decide +kernel
theorem dX9_lay_7 : decode cX9_lay 7 = .ok (.aload_n 0, 1) := by decide +kernel
theorem dX9_lay_8 : decode cX9_lay 8 = .ok (.getfield 102, 3) := by decide +kernel
theorem dX9_lay_11 : decode cX9_lay 11 = .ok (.ifCond .ne 6, 3) := by decide +kernel
theorem dX9_lay_14 : decode cX9_lay 14 = .ok (.bipush (-2), 2) := by decide +kernel
theorem dX9_lay_16 : decode cX9_lay 16 = .ok (.ireturn, 1) := by decide +kernel
theorem dX9_lay_17 : decode cX9_lay 17 = .ok (.aload_n 0, 1) := by decide +kernel
theorem dX9_lay_18 : decode cX9_lay 18 = .ok (.invokevirtual 91, 3) := by decide +kernel
theorem dX9_lay_21 : decode cX9_lay 21 = .ok (.aload_n 0, 1) := by decide +kernel
theorem dX9_lay_22 : decode cX9_lay 22 = .ok (.sipush 385, 3) := by decide +kernel
theorem dX9_lay_25 : decode cX9_lay 25 = .ok (.iconst 0, 1) := by decide +kernel
theorem dX9_lay_26 : decode cX9_lay 26 = .ok (.invokevirtual 175, 3) := by decide +kernel
theorem dX9_lay_29 : decode cX9_lay 29 = .ok (.iconst 0, 1) := by decide +kernel
theorem dX9_lay_30 : decode cX9_lay 30 = .ok (.istore_n 1, 1) := by decide +kernel
theorem dX9_lay_31 : decode cX9_lay 31 = .ok (.iload_n 1, 1) := by decide +kernel
theorem dX9_lay_32 : decode cX9_lay 32 = .ok (.aload_n 0, 1) := by decide +kernel
theorem dX9_lay_33 : decode cX9_lay 33 = .ok (.getfield 94, 3) := by decide +kernel
theorem dX9_lay_36 : decode cX9_lay 36 = .ok (.if_icmp .ge 21, 3) := by decide +kernel
theorem dX9_lay_39 : decode cX9_lay 39 = .ok (.aload_n 0, 1) := by decide +kernel
theorem dX9_lay_40 : decode cX9_lay 40 = .ok (.iconst 0, 1) := by decide +kernel
theorem dX9_lay_41 : decode cX9_lay 41 = .ok (.iload_n 1, 1) := by decide +kernel
theorem dX9_lay_42 : decode cX9_lay 42 = .ok (.aload_n 0, 1) := by decide +kernel
theorem dX9_lay_43 : decode cX9_lay 43 = .ok (.getfield 13, 3) := by decide +kernel
theorem dX9_lay_46 : decode cX9_lay 46 = .ok (.iload_n 1, 1) := by decide +kernel
theorem dX9_lay_47 : decode cX9_lay 47 = .ok (.iaload, 1) := by decide +kernel
theorem dX9_lay_48 : decode cX9_lay 48 = .ok (.invokevirtual 98, 3) := by decide +kernel
theorem dX9_lay_51 : decode cX9_lay 51 = .ok (.iinc 1 1, 3) := by decide +kernel
theorem dX9_lay_54 : decode cX9_lay 54 = .ok (.goto (-23), 3) := by decide +kernel
theorem dX9_lay_57 : decode cX9_lay 57 = .ok (.aload_n 0, 1) := by decide +kernel
theorem dX9_lay_58 : decode cX9_lay 58 = .ok (.iconst 0, 1) := by decide +kernel
theorem dX9_lay_59 : decode cX9_lay 59 = .ok (.putfield 178, 3) := by decide +kernel
theorem dX9_lay_62 : decode cX9_lay 62 = .ok (.aload_n 0, 1) := by decide +kernel
theorem dX9_lay_63 : decode cX9_lay 63 = .ok (.iconst 0, 1) := by decide +kernel
theorem dX9_lay_64 : decode cX9_lay 64 = .ok (.putfield 181, 3) := by decide +kernel
theorem dX9_lay_67 : decode cX9_lay 67 = .ok (.aload_n 0, 1) := by decide +kernel
theorem dX9_lay_68 : decode cX9_lay 68 = .ok (.iconst 0, 1) := by decide +kernel
theorem dX9_lay_69 : decode cX9_lay 69 = .ok (.putfield 184, 3) := by decide +kernel
theorem dX9_lay_72 : decode cX9_lay 72 = .ok (.aload_n 0, 1) := by decide +kernel
theorem dX9_lay_73 : decode cX9_lay 73 = .ok (.getfield 94, 3) := by decide +kernel
theorem dX9_lay_76 : decode cX9_lay 76 = .ok (.ireturn, 1) := by decide +kernel
theorem dX9_isFeast_0 : decode cX9_isFeast 0 = .ok (.aload_n 0, 1) := by decide +kernel
theorem dX9_isFeast_1 : decode cX9_isFeast 1 = .ok (.getfield 46, 3) := by decide +kernel
theorem dX9_isFeast_4 : decode cX9_isFeast 4 = .ok (.iload_n 1, 1) := by decide +kernel
theorem dX9_isFeast_5 : decode cX9_isFeast 5 = .ok (.bipush 34, 2) := by decide +kernel
theorem dX9_isFeast_7 : decode cX9_isFeast 7 = .ok (.iadd, 1) := by decide +kernel
theorem dX9_isFeast_8 : decode cX9_isFeast 8 = .ok (.iaload, 1) := by decide +kernel
theorem dX9_isFeast_9 : decode cX9_isFeast 9 = .ok (.bipush 7, 2) := by decide +kernel
theorem dX9_isFeast_11 : decode cX9_isFeast 11 = .ok (.irem, 1) := by decide +kernel
theorem dX9_isFeast_12 : decode cX9_isFeast 12 = .ok (.bipush 6, 2) := by decide +kernel
theorem dX9_isFeast_14 : decode cX9_isFeast 14 = .ok (.if_icmp .ne 7, 3) := by decide +kernel
theorem dX9_isFeast_17 : decode cX9_isFeast 17 = .ok (.iconst 1, 1) := by decide +kernel
theorem dX9_isFeast_18 : decode cX9_isFeast 18 = .ok (.goto 4, 3) := by decide +kernel
theorem dX9_isFeast_21 : decode cX9_isFeast 21 = .ok (.iconst 0, 1) := by decide +kernel
theorem dX9_isFeast_22 : decode cX9_isFeast 22 = .ok (.ireturn, 1) := by decide +kernel
set_option maxRecDepth 20000 in
theorem ggX9_does_X9_shareOf : GoodIn wsX9_does wsX9_shareOf := goodIn_r _ [7, 1, 8, 19, 20, 21, 22, 23, 24, 25, 26, 27, 28, 29, 30, 31, 32, 33, 34, 35, 36, 37, 38, 39, 40, 41, 42, 43, 44, 45, 46, 47, 48, 49, 50, 51, 52, 53, 54, 55, 56] (by decide +kernel) (by decide +kernel)
set_option maxRecDepth 20000 in
theorem gX9_does_X9_shareOf : GoodIn wsX9_does (wsV RX9 187 RX9 yX9_shareOf wsX9_shareOf) := goodIn_app (goodIn_of _ (by decide +kernel)) ggX9_does_X9_shareOf
set_option maxRecDepth 20000 in
theorem ggX9_does_X9_has : GoodIn wsX9_does wsX9_has := goodIn_r _ [11] (by decide +kernel) (by decide +kernel)
set_option maxRecDepth 20000 in
theorem gX9_does_X9_has : GoodIn wsX9_does (va_wsS RX9 191 yX9_has wsX9_has) := goodIn_app (goodIn_of _ (by decide +kernel)) ggX9_does_X9_has
set_option maxRecDepth 20000 in
theorem ggX9_does_X9_isFeast : GoodIn wsX9_does wsX9_isFeast := goodIn_r _ [15, 1, 19, 20, 21, 22, 23, 24, 25, 26, 27, 28, 29, 30, 31, 32, 33, 34, 35, 36, 37, 38, 39, 40, 41, 42, 43, 44, 45, 46, 47, 48, 49, 50, 51, 52, 53, 54, 55, 56] (by decide +kernel) (by decide +kernel)
set_option maxRecDepth 20000 in
theorem gX9_does_X9_isFeast : GoodIn wsX9_does (wsV RX9 194 RX9 yX9_isFeast wsX9_isFeast) := goodIn_app (goodIn_of _ (by decide +kernel)) ggX9_does_X9_isFeast
set_option maxRecDepth 20000 in
theorem ggX9_does_X9_larger : GoodIn wsX9_does wsX9_larger := goodIn_r _ [18] (by decide +kernel) (by decide +kernel)
set_option maxRecDepth 20000 in
theorem gX9_does_X9_larger : GoodIn wsX9_does (va_wsS RX9 198 yX9_larger wsX9_larger) := goodIn_app (goodIn_of _ (by decide +kernel)) ggX9_does_X9_larger
theorem dX9_does_0 : decode cX9_does 0 = .ok (.aload_n 0, 1) := by decide +kernel
theorem dX9_does_1 : decode cX9_does 1 = .ok (.iload_n 1, 1) := by decide +kernel
theorem dX9_does_2 : decode cX9_does 2 = .ok (.iload_n 2, 1) := by decide +kernel
theorem dX9_does_3 : decode cX9_does 3 = .ok (.iload_n 3, 1) := by decide +kernel
theorem dX9_does_4 : decode cX9_does 4 = .ok (.invokevirtual 187, 3) := by decide +kernel
theorem dX9_does_7 : decode cX9_does 7 = .ok (.istore 4, 2) := by decide +kernel
theorem dX9_does_9 : decode cX9_does 9 = .ok (.aload_n 0, 1) := by decide +kernel
theorem dX9_does_10 : decode cX9_does 10 = .ok (.getfield 46, 3) := by decide +kernel
theorem dX9_does_13 : decode cX9_does 13 = .ok (.iload_n 1, 1) := by decide +kernel
theorem dX9_does_14 : decode cX9_does 14 = .ok (.bipush 33, 2) := by decide +kernel
theorem dX9_does_16 : decode cX9_does 16 = .ok (.iadd, 1) := by decide +kernel
theorem dX9_does_17 : decode cX9_does 17 = .ok (.iaload, 1) := by decide +kernel
theorem dX9_does_18 : decode cX9_does 18 = .ok (.iload_n 2, 1) := by decide +kernel
theorem dX9_does_19 : decode cX9_does 19 = .ok (.invokestatic 191, 3) := by decide +kernel
theorem dX9_does_22 : decode cX9_does 22 = .ok (.istore 5, 2) := by decide +kernel
theorem dX9_does_24 : decode cX9_does 24 = .ok (.aload_n 0, 1) := by decide +kernel
theorem dX9_does_25 : decode cX9_does 25 = .ok (.iload_n 1, 1) := by decide +kernel
theorem dX9_does_26 : decode cX9_does 26 = .ok (.invokevirtual 194, 3) := by decide +kernel
theorem dX9_does_29 : decode cX9_does 29 = .ok (.ifCond .ne 13, 3) := by decide +kernel
theorem dX9_does_32 : decode cX9_does 32 = .ok (.aload_n 0, 1) := by decide +kernel
theorem dX9_does_33 : decode cX9_does 33 = .ok (.getfield 7, 3) := by decide +kernel
theorem dX9_does_36 : decode cX9_does 36 = .ok (.iload_n 2, 1) := by decide +kernel
theorem dX9_does_37 : decode cX9_does 37 = .ok (.iaload, 1) := by decide +kernel
theorem dX9_does_38 : decode cX9_does 38 = .ok (.iconst 1, 1) := by decide +kernel
theorem dX9_does_39 : decode cX9_does 39 = .ok (.if_icmp .ne 5, 3) := by decide +kernel
theorem dX9_does_42 : decode cX9_does 42 = .ok (.iconst 0, 1) := by decide +kernel
theorem dX9_does_43 : decode cX9_does 43 = .ok (.ireturn, 1) := by decide +kernel
theorem dX9_does_44 : decode cX9_does 44 = .ok (.aload_n 0, 1) := by decide +kernel
theorem dX9_does_45 : decode cX9_does 45 = .ok (.getfield 7, 3) := by decide +kernel
theorem dX9_does_48 : decode cX9_does 48 = .ok (.iload_n 2, 1) := by decide +kernel
theorem dX9_does_49 : decode cX9_does 49 = .ok (.iaload, 1) := by decide +kernel
theorem dX9_does_50 : decode cX9_does 50 = .ok (.iconst 2, 1) := by decide +kernel
theorem dX9_does_51 : decode cX9_does 51 = .ok (.if_icmp .ne 18, 3) := by decide +kernel
theorem dX9_does_54 : decode cX9_does 54 = .ok (.iload 5, 2) := by decide +kernel
theorem dX9_does_56 : decode cX9_does 56 = .ok (.ifCond .eq 10, 3) := by decide +kernel
theorem dX9_does_59 : decode cX9_does 59 = .ok (.iconst 2, 1) := by decide +kernel
theorem dX9_does_60 : decode cX9_does 60 = .ok (.iload 4, 2) := by decide +kernel
theorem dX9_does_62 : decode cX9_does 62 = .ok (.imul, 1) := by decide +kernel
theorem dX9_does_63 : decode cX9_does 63 = .ok (.goto 5, 3) := by decide +kernel
theorem dX9_does_66 : decode cX9_does 66 = .ok (.iload 4, 2) := by decide +kernel
theorem dX9_does_68 : decode cX9_does 68 = .ok (.ireturn, 1) := by decide +kernel
theorem dX9_does_69 : decode cX9_does 69 = .ok (.aload_n 0, 1) := by decide +kernel
theorem dX9_does_70 : decode cX9_does 70 = .ok (.getfield 7, 3) := by decide +kernel
theorem dX9_does_73 : decode cX9_does 73 = .ok (.iload_n 2, 1) := by decide +kernel
theorem dX9_does_74 : decode cX9_does 74 = .ok (.iaload, 1) := by decide +kernel
theorem dX9_does_75 : decode cX9_does 75 = .ok (.iconst 3, 1) := by decide +kernel
theorem dX9_does_76 : decode cX9_does 76 = .ok (.if_icmp .ne 17, 3) := by decide +kernel
theorem dX9_does_79 : decode cX9_does 79 = .ok (.iload 5, 2) := by decide +kernel
theorem dX9_does_81 : decode cX9_does 81 = .ok (.ifCond .eq 7, 3) := by decide +kernel
theorem dX9_does_84 : decode cX9_does 84 = .ok (.iconst 1, 1) := by decide +kernel
theorem dX9_does_85 : decode cX9_does 85 = .ok (.goto 7, 3) := by decide +kernel
theorem dX9_does_88 : decode cX9_does 88 = .ok (.iload 4, 2) := by decide +kernel
theorem dX9_does_90 : decode cX9_does 90 = .ok (.iconst 1, 1) := by decide +kernel
theorem dX9_does_91 : decode cX9_does 91 = .ok (.iadd, 1) := by decide +kernel
theorem dX9_does_92 : decode cX9_does 92 = .ok (.ireturn, 1) := by decide +kernel
theorem dX9_does_93 : decode cX9_does 93 = .ok (.iload 5, 2) := by decide +kernel
theorem dX9_does_95 : decode cX9_does 95 = .ok (.ifCond .eq 7, 3) := by decide +kernel
theorem dX9_does_98 : decode cX9_does 98 = .ok (.iconst 0, 1) := by decide +kernel
theorem dX9_does_99 : decode cX9_does 99 = .ok (.goto 37, 3) := by decide +kernel
theorem dX9_does_102 : decode cX9_does 102 = .ok (.aload_n 0, 1) := by decide +kernel
theorem dX9_does_103 : decode cX9_does 103 = .ok (.getfield 7, 3) := by decide +kernel
theorem dX9_does_106 : decode cX9_does 106 = .ok (.iload_n 2, 1) := by decide +kernel
theorem dX9_does_107 : decode cX9_does 107 = .ok (.iaload, 1) := by decide +kernel
theorem dX9_does_108 : decode cX9_does 108 = .ok (.iconst 4, 1) := by decide +kernel
theorem dX9_does_109 : decode cX9_does 109 = .ok (.if_icmp .ne 25, 3) := by decide +kernel
theorem dX9_does_112 : decode cX9_does 112 = .ok (.aload_n 0, 1) := by decide +kernel
theorem dX9_does_113 : decode cX9_does 113 = .ok (.getfield 46, 3) := by decide +kernel
theorem dX9_does_116 : decode cX9_does 116 = .ok (.iload_n 1, 1) := by decide +kernel
theorem dX9_does_117 : decode cX9_does 117 = .ok (.iload_n 2, 1) := by decide +kernel
theorem dX9_does_118 : decode cX9_does 118 = .ok (.iadd, 1) := by decide +kernel
theorem dX9_does_119 : decode cX9_does 119 = .ok (.iaload, 1) := by decide +kernel
theorem dX9_does_120 : decode cX9_does 120 = .ok (.bipush 10, 2) := by decide +kernel
theorem dX9_does_122 : decode cX9_does 122 = .ok (.if_icmp .lt 12, 3) := by decide +kernel
theorem dX9_does_125 : decode cX9_does 125 = .ok (.iconst 2, 1) := by decide +kernel
theorem dX9_does_126 : decode cX9_does 126 = .ok (.iload 4, 2) := by decide +kernel
theorem dX9_does_128 : decode cX9_does 128 = .ok (.invokestatic 198, 3) := by decide +kernel
theorem dX9_does_131 : decode cX9_does 131 = .ok (.goto 5, 3) := by decide +kernel
theorem dX9_does_134 : decode cX9_does 134 = .ok (.iload 4, 2) := by decide +kernel
theorem dX9_does_136 : decode cX9_does 136 = .ok (.ireturn, 1) := by decide +kernel
set_option maxRecDepth 20000 in
theorem ggX9_treesOf_X9_whose : GoodIn wsX9_treesOf wsX9_whose := goodIn_r _ [6, 7, 8, 9, 10, 11, 12, 13, 14, 15, 16, 17, 18, 19, 20, 21, 22, 23, 24, 25, 26, 27, 28, 29, 30, 31, 32, 33, 34, 35, 36, 37, 38, 39, 40, 41, 42, 43, 44, 45, 46, 47, 48, 49] (by decide +kernel) (by decide +kernel)
set_option maxRecDepth 20000 in
theorem gX9_treesOf_X9_whose : GoodIn wsX9_treesOf (wsV RX9 201 RX9 yX9_whose wsX9_whose) := goodIn_app (goodIn_of _ (by decide +kernel)) ggX9_treesOf_X9_whose
theorem dX9_treesOf_0 : decode cX9_treesOf 0 = .ok (.iconst 0, 1) := by decide +kernel
theorem dX9_treesOf_1 : decode cX9_treesOf 1 = .ok (.istore_n 3, 1) := by decide +kernel
theorem dX9_treesOf_2 : decode cX9_treesOf 2 = .ok (.iconst 0, 1) := by decide +kernel
theorem dX9_treesOf_3 : decode cX9_treesOf 3 = .ok (.istore 4, 2) := by decide +kernel
theorem dX9_treesOf_5 : decode cX9_treesOf 5 = .ok (.iload 4, 2) := by decide +kernel
theorem dX9_treesOf_7 : decode cX9_treesOf 7 = .ok (.aload_n 0, 1) := by decide +kernel
theorem dX9_treesOf_8 : decode cX9_treesOf 8 = .ok (.getfield 114, 3) := by decide +kernel
theorem dX9_treesOf_11 : decode cX9_treesOf 11 = .ok (.if_icmp .ge 31, 3) := by decide +kernel
theorem dX9_treesOf_14 : decode cX9_treesOf 14 = .ok (.iload_n 3, 1) := by decide +kernel
theorem dX9_treesOf_15 : decode cX9_treesOf 15 = .ok (.aload_n 0, 1) := by decide +kernel
theorem dX9_treesOf_16 : decode cX9_treesOf 16 = .ok (.iload_n 1, 1) := by decide +kernel
theorem dX9_treesOf_17 : decode cX9_treesOf 17 = .ok (.iload 4, 2) := by decide +kernel
theorem dX9_treesOf_19 : decode cX9_treesOf 19 = .ok (.invokevirtual 201, 3) := by decide +kernel
theorem dX9_treesOf_22 : decode cX9_treesOf 22 = .ok (.iload_n 2, 1) := by decide +kernel
theorem dX9_treesOf_23 : decode cX9_treesOf 23 = .ok (.if_icmp .ne 10, 3) := by decide +kernel
theorem dX9_treesOf_26 : decode cX9_treesOf 26 = .ok (.iconst 1, 1) := by decide +kernel
theorem dX9_treesOf_27 : decode cX9_treesOf 27 = .ok (.iload 4, 2) := by decide +kernel
theorem dX9_treesOf_29 : decode cX9_treesOf 29 = .ok (.ishl, 1) := by decide +kernel
theorem dX9_treesOf_30 : decode cX9_treesOf 30 = .ok (.goto 4, 3) := by decide +kernel
theorem dX9_treesOf_33 : decode cX9_treesOf 33 = .ok (.iconst 0, 1) := by decide +kernel
theorem dX9_treesOf_34 : decode cX9_treesOf 34 = .ok (.ior, 1) := by decide +kernel
theorem dX9_treesOf_35 : decode cX9_treesOf 35 = .ok (.istore_n 3, 1) := by decide +kernel
theorem dX9_treesOf_36 : decode cX9_treesOf 36 = .ok (.iinc 4 1, 3) := by decide +kernel
theorem dX9_treesOf_39 : decode cX9_treesOf 39 = .ok (.goto (-34), 3) := by decide +kernel
theorem dX9_treesOf_42 : decode cX9_treesOf 42 = .ok (.iload_n 3, 1) := by decide +kernel
theorem dX9_treesOf_43 : decode cX9_treesOf 43 = .ok (.ireturn, 1) := by decide +kernel
theorem dX9_whose_0 : decode cX9_whose 0 = .ok (.aload_n 0, 1) := by decide +kernel
theorem dX9_whose_1 : decode cX9_whose 1 = .ok (.getfield 46, 3) := by decide +kernel
theorem dX9_whose_4 : decode cX9_whose 4 = .ok (.iload_n 1, 1) := by decide +kernel
theorem dX9_whose_5 : decode cX9_whose 5 = .ok (.bipush 6, 2) := by decide +kernel
theorem dX9_whose_7 : decode cX9_whose 7 = .ok (.iadd, 1) := by decide +kernel
theorem dX9_whose_8 : decode cX9_whose 8 = .ok (.aload_n 0, 1) := by decide +kernel
theorem dX9_whose_9 : decode cX9_whose 9 = .ok (.getfield 22, 3) := by decide +kernel
theorem dX9_whose_12 : decode cX9_whose 12 = .ok (.iload_n 2, 1) := by decide +kernel
theorem dX9_whose_13 : decode cX9_whose 13 = .ok (.iaload, 1) := by decide +kernel
theorem dX9_whose_14 : decode cX9_whose 14 = .ok (.iadd, 1) := by decide +kernel
theorem dX9_whose_15 : decode cX9_whose 15 = .ok (.iaload, 1) := by decide +kernel
theorem dX9_whose_16 : decode cX9_whose 16 = .ok (.aload_n 0, 1) := by decide +kernel
theorem dX9_whose_17 : decode cX9_whose 17 = .ok (.getfield 25, 3) := by decide +kernel
theorem dX9_whose_20 : decode cX9_whose 20 = .ok (.iload_n 2, 1) := by decide +kernel
theorem dX9_whose_21 : decode cX9_whose 21 = .ok (.iaload, 1) := by decide +kernel
theorem dX9_whose_22 : decode cX9_whose 22 = .ok (.if_icmp .lt 17, 3) := by decide +kernel
theorem dX9_whose_25 : decode cX9_whose 25 = .ok (.aload_n 0, 1) := by decide +kernel
theorem dX9_whose_26 : decode cX9_whose 26 = .ok (.getfield 16, 3) := by decide +kernel
theorem dX9_whose_29 : decode cX9_whose 29 = .ok (.aload_n 0, 1) := by decide +kernel
theorem dX9_whose_30 : decode cX9_whose 30 = .ok (.getfield 22, 3) := by decide +kernel
theorem dX9_whose_33 : decode cX9_whose 33 = .ok (.iload_n 2, 1) := by decide +kernel
theorem dX9_whose_34 : decode cX9_whose 34 = .ok (.iaload, 1) := by decide +kernel
theorem dX9_whose_35 : decode cX9_whose 35 = .ok (.iaload, 1) := by decide +kernel
theorem dX9_whose_36 : decode cX9_whose 36 = .ok (.goto 14, 3) := by decide +kernel
theorem dX9_whose_39 : decode cX9_whose 39 = .ok (.aload_n 0, 1) := by decide +kernel
theorem dX9_whose_40 : decode cX9_whose 40 = .ok (.getfield 19, 3) := by decide +kernel
theorem dX9_whose_43 : decode cX9_whose 43 = .ok (.aload_n 0, 1) := by decide +kernel
theorem dX9_whose_44 : decode cX9_whose 44 = .ok (.getfield 22, 3) := by decide +kernel
theorem dX9_whose_47 : decode cX9_whose 47 = .ok (.iload_n 2, 1) := by decide +kernel
theorem dX9_whose_48 : decode cX9_whose 48 = .ok (.iaload, 1) := by decide +kernel
theorem dX9_whose_49 : decode cX9_whose 49 = .ok (.iaload, 1) := by decide +kernel
theorem dX9_whose_50 : decode cX9_whose 50 = .ok (.ireturn, 1) := by decide +kernel
set_option maxRecDepth 20000 in
theorem ggX9_family_X9_isFamily : GoodIn wsX9_family wsX9_isFamily := goodIn_r _ [9, 10, 11, 12, 8, 13, 36, 37, 38, 39, 40, 41, 42, 43, 44, 45, 46, 47, 48, 49, 50, 51, 52, 53, 54, 55, 56, 57, 58, 59, 60, 61, 62, 63, 64, 65, 66, 67, 68, 69, 70, 71, 72, 73] (by decide +kernel) (by decide +kernel)
set_option maxRecDepth 20000 in
theorem gX9_family_X9_isFamily : GoodIn wsX9_family (wsV RX9 204 RX9 yX9_isFamily wsX9_isFamily) := goodIn_app (goodIn_of _ (by decide +kernel)) ggX9_family_X9_isFamily
set_option maxRecDepth 20000 in
theorem ggX9_family_X9_in : GoodIn wsX9_family wsX9_in := goodIn_r _ [13] (by decide +kernel) (by decide +kernel)
set_option maxRecDepth 20000 in
theorem gX9_family_X9_in : GoodIn wsX9_family (va_wsS RX9 117 yX9_in wsX9_in) := goodIn_app (goodIn_of _ (by decide +kernel)) ggX9_family_X9_in
set_option maxRecDepth 20000 in
theorem ggX9_family_X9_many : GoodIn wsX9_family wsX9_many := goodIn_r _ [17, 18, 19, 20, 21, 8, 22, 23, 24, 36, 37, 38, 39, 40, 41, 42, 43, 44, 45, 46, 47, 48, 49, 50, 51, 52, 53, 54, 55, 56, 57, 58, 59, 60, 61, 62, 63, 64, 65, 66, 67, 68, 69, 70, 71, 72, 73] (by decide +kernel) (by decide +kernel)
set_option maxRecDepth 20000 in
theorem gX9_family_X9_many : GoodIn wsX9_family (wsV RX9 125 RX9 yX9_many wsX9_many) := goodIn_app (goodIn_of _ (by decide +kernel)) ggX9_family_X9_many
set_option maxRecDepth 20000 in
theorem ggX9_family_X9_treesOf : GoodIn wsX9_family wsX9_treesOf := goodIn_r _ [28, 29, 30, 31, 32, 8, 33, 4, 34, 35, 23, 24, 36, 37, 38, 39, 40, 41, 42, 43, 44, 45, 46, 47, 48, 49, 50, 51, 52, 53, 54, 55, 56, 57, 58, 59, 60, 61, 62, 63, 64, 65, 66, 67, 68, 69, 70, 71, 72, 73] (by decide +kernel) (by decide +kernel)
set_option maxRecDepth 20000 in
theorem gX9_family_X9_treesOf : GoodIn wsX9_family (wsV RX9 209 RX9 yX9_treesOf wsX9_treesOf) := goodIn_app (goodIn_of _ (by decide +kernel)) ggX9_family_X9_treesOf
theorem dX9_family_0 : decode cX9_family 0 = .ok (.aload_n 0, 1) := by decide +kernel
theorem dX9_family_1 : decode cX9_family 1 = .ok (.iload_n 1, 1) := by decide +kernel
theorem dX9_family_2 : decode cX9_family 2 = .ok (.invokevirtual 204, 3) := by decide +kernel
theorem dX9_family_5 : decode cX9_family 5 = .ok (.ifCond .eq 15, 3) := by decide +kernel
theorem dX9_family_8 : decode cX9_family 8 = .ok (.iload_n 2, 1) := by decide +kernel
theorem dX9_family_9 : decode cX9_family 9 = .ok (.i2l, 1) := by decide +kernel
theorem dX9_family_10 : decode cX9_family 10 = .ok (.lconst 0, 1) := by decide +kernel
theorem dX9_family_11 : decode cX9_family 11 = .ok (.ldc2_w 207, 3) := by decide +kernel
theorem dX9_family_14 : decode cX9_family 14 = .ok (.invokestatic 117, 3) := by decide +kernel
theorem dX9_family_17 : decode cX9_family 17 = .ok (.ifCond .ne 5, 3) := by decide +kernel
theorem dX9_family_20 : decode cX9_family 20 = .ok (.iconst (-1), 1) := by decide +kernel
theorem dX9_family_21 : decode cX9_family 21 = .ok (.ireturn, 1) := by decide +kernel
theorem dX9_family_22 : decode cX9_family 22 = .ok (.iload_n 2, 1) := by decide +kernel
theorem dX9_family_23 : decode cX9_family 23 = .ok (.ifCond .ne 12, 3) := by decide +kernel
theorem dX9_family_26 : decode cX9_family 26 = .ok (.aload_n 0, 1) := by decide +kernel
theorem dX9_family_27 : decode cX9_family 27 = .ok (.getfield 7, 3) := by decide +kernel
theorem dX9_family_30 : decode cX9_family 30 = .ok (.iload_n 1, 1) := by decide +kernel
theorem dX9_family_31 : decode cX9_family 31 = .ok (.iaload, 1) := by decide +kernel
theorem dX9_family_32 : decode cX9_family 32 = .ok (.goto 69, 3) := by decide +kernel
theorem dX9_family_35 : decode cX9_family 35 = .ok (.iload_n 2, 1) := by decide +kernel
theorem dX9_family_36 : decode cX9_family 36 = .ok (.iconst 1, 1) := by decide +kernel
theorem dX9_family_37 : decode cX9_family 37 = .ok (.if_icmp .ne 12, 3) := by decide +kernel
theorem dX9_family_40 : decode cX9_family 40 = .ok (.aload_n 0, 1) := by decide +kernel
theorem dX9_family_41 : decode cX9_family 41 = .ok (.getfield 13, 3) := by decide +kernel
theorem dX9_family_44 : decode cX9_family 44 = .ok (.iload_n 1, 1) := by decide +kernel
theorem dX9_family_45 : decode cX9_family 45 = .ok (.iaload, 1) := by decide +kernel
theorem dX9_family_46 : decode cX9_family 46 = .ok (.goto 55, 3) := by decide +kernel
theorem dX9_family_49 : decode cX9_family 49 = .ok (.iload_n 2, 1) := by decide +kernel
theorem dX9_family_50 : decode cX9_family 50 = .ok (.iconst 2, 1) := by decide +kernel
theorem dX9_family_51 : decode cX9_family 51 = .ok (.if_icmp .ne 12, 3) := by decide +kernel
theorem dX9_family_54 : decode cX9_family 54 = .ok (.aload_n 0, 1) := by decide +kernel
theorem dX9_family_55 : decode cX9_family 55 = .ok (.getfield 46, 3) := by decide +kernel
theorem dX9_family_58 : decode cX9_family 58 = .ok (.iload_n 1, 1) := by decide +kernel
theorem dX9_family_59 : decode cX9_family 59 = .ok (.iaload, 1) := by decide +kernel
theorem dX9_family_60 : decode cX9_family 60 = .ok (.goto 41, 3) := by decide +kernel
theorem dX9_family_63 : decode cX9_family 63 = .ok (.iload_n 2, 1) := by decide +kernel
theorem dX9_family_64 : decode cX9_family 64 = .ok (.iconst 3, 1) := by decide +kernel
theorem dX9_family_65 : decode cX9_family 65 = .ok (.if_icmp .ne 17, 3) := by decide +kernel
theorem dX9_family_68 : decode cX9_family 68 = .ok (.aload_n 0, 1) := by decide +kernel
theorem dX9_family_69 : decode cX9_family 69 = .ok (.getfield 46, 3) := by decide +kernel
theorem dX9_family_72 : decode cX9_family 72 = .ok (.bipush 33, 2) := by decide +kernel
theorem dX9_family_74 : decode cX9_family 74 = .ok (.iaload, 1) := by decide +kernel
theorem dX9_family_75 : decode cX9_family 75 = .ok (.iload_n 1, 1) := by decide +kernel
theorem dX9_family_76 : decode cX9_family 76 = .ok (.ishr, 1) := by decide +kernel
theorem dX9_family_77 : decode cX9_family 77 = .ok (.iconst 1, 1) := by decide +kernel
theorem dX9_family_78 : decode cX9_family 78 = .ok (.iand, 1) := by decide +kernel
theorem dX9_family_79 : decode cX9_family 79 = .ok (.goto 22, 3) := by decide +kernel
theorem dX9_family_82 : decode cX9_family 82 = .ok (.iload_n 2, 1) := by decide +kernel
theorem dX9_family_83 : decode cX9_family 83 = .ok (.iconst 4, 1) := by decide +kernel
theorem dX9_family_84 : decode cX9_family 84 = .ok (.if_icmp .ne 11, 3) := by decide +kernel
theorem dX9_family_87 : decode cX9_family 87 = .ok (.aload_n 0, 1) := by decide +kernel
theorem dX9_family_88 : decode cX9_family 88 = .ok (.iload_n 1, 1) := by decide +kernel
theorem dX9_family_89 : decode cX9_family 89 = .ok (.invokevirtual 125, 3) := by decide +kernel
theorem dX9_family_92 : decode cX9_family 92 = .ok (.goto 9, 3) := by decide +kernel
theorem dX9_family_95 : decode cX9_family 95 = .ok (.aload_n 0, 1) := by decide +kernel
theorem dX9_family_96 : decode cX9_family 96 = .ok (.iconst 0, 1) := by decide +kernel
theorem dX9_family_97 : decode cX9_family 97 = .ok (.iload_n 1, 1) := by decide +kernel
theorem dX9_family_98 : decode cX9_family 98 = .ok (.invokevirtual 209, 3) := by decide +kernel
theorem dX9_family_101 : decode cX9_family 101 = .ok (.ireturn, 1) := by decide +kernel
theorem dX9_goes_0 : decode cX9_goes 0 = .ok (.iload_n 3, 1) := by decide +kernel
theorem dX9_goes_1 : decode cX9_goes 1 = .ok (.iload 4, 2) := by decide +kernel
theorem dX9_goes_3 : decode cX9_goes 3 = .ok (.if_icmp .ge 12, 3) := by decide +kernel
theorem dX9_goes_6 : decode cX9_goes 6 = .ok (.aload_n 0, 1) := by decide +kernel
theorem dX9_goes_7 : decode cX9_goes 7 = .ok (.getfield 16, 3) := by decide +kernel
theorem dX9_goes_10 : decode cX9_goes 10 = .ok (.iload_n 2, 1) := by decide +kernel
theorem dX9_goes_11 : decode cX9_goes 11 = .ok (.iaload, 1) := by decide +kernel
theorem dX9_goes_12 : decode cX9_goes 12 = .ok (.goto 9, 3) := by decide +kernel
theorem dX9_goes_15 : decode cX9_goes 15 = .ok (.aload_n 0, 1) := by decide +kernel
theorem dX9_goes_16 : decode cX9_goes 16 = .ok (.getfield 19, 3) := by decide +kernel
theorem dX9_goes_19 : decode cX9_goes 19 = .ok (.iload_n 2, 1) := by decide +kernel
theorem dX9_goes_20 : decode cX9_goes 20 = .ok (.iaload, 1) := by decide +kernel
theorem dX9_goes_21 : decode cX9_goes 21 = .ok (.istore 5, 2) := by decide +kernel
theorem dX9_goes_23 : decode cX9_goes 23 = .ok (.iload_n 3, 1) := by decide +kernel
theorem dX9_goes_24 : decode cX9_goes 24 = .ok (.iload 4, 2) := by decide +kernel
theorem dX9_goes_26 : decode cX9_goes 26 = .ok (.if_icmp .eq 15, 3) := by decide +kernel
theorem dX9_goes_29 : decode cX9_goes 29 = .ok (.aload_n 0, 1) := by decide +kernel
theorem dX9_goes_30 : decode cX9_goes 30 = .ok (.getfield 46, 3) := by decide +kernel
theorem dX9_goes_33 : decode cX9_goes 33 = .ok (.iload_n 1, 1) := by decide +kernel
theorem dX9_goes_34 : decode cX9_goes 34 = .ok (.iload 5, 2) := by decide +kernel
theorem dX9_goes_36 : decode cX9_goes 36 = .ok (.iadd, 1) := by decide +kernel
theorem dX9_goes_37 : decode cX9_goes 37 = .ok (.iaload, 1) := by decide +kernel
theorem dX9_goes_38 : decode cX9_goes 38 = .ok (.ifCond .ne 8, 3) := by decide +kernel
theorem dX9_goes_41 : decode cX9_goes 41 = .ok (.bipush (-4), 2) := by decide +kernel
theorem dX9_goes_43 : decode cX9_goes 43 = .ok (.goto 5, 3) := by decide +kernel
theorem dX9_goes_46 : decode cX9_goes 46 = .ok (.iload 5, 2) := by decide +kernel
theorem dX9_goes_48 : decode cX9_goes 48 = .ok (.ireturn, 1) := by decide +kernel
set_option maxRecDepth 20000 in
theorem ggX9_wall_X9_isWall : GoodIn wsX9_wall wsX9_isWall := goodIn_r _ [9, 10, 11, 12, 8, 13, 37, 38, 39, 40, 41, 42, 43, 44, 45, 46, 47, 48, 49, 50, 51, 52, 53, 54, 55, 56, 57, 58, 59, 60, 61, 62, 63, 64, 65, 66, 67, 68, 69, 70, 71, 72, 73, 74] (by decide +kernel) (by decide +kernel)
set_option maxRecDepth 20000 in
theorem gX9_wall_X9_isWall : GoodIn wsX9_wall (wsV RX9 212 RX9 yX9_isWall wsX9_isWall) := goodIn_app (goodIn_of _ (by decide +kernel)) ggX9_wall_X9_isWall
set_option maxRecDepth 20000 in
theorem ggX9_wall_X9_in : GoodIn wsX9_wall wsX9_in := goodIn_r _ [13] (by decide +kernel) (by decide +kernel)
set_option maxRecDepth 20000 in
theorem gX9_wall_X9_in : GoodIn wsX9_wall (va_wsS RX9 117 yX9_in wsX9_in) := goodIn_app (goodIn_of _ (by decide +kernel)) ggX9_wall_X9_in
set_option maxRecDepth 20000 in
theorem ggX9_wall_X9_does : GoodIn wsX9_wall wsX9_does := goodIn_r _ [17, 4, 18, 19, 20, 21, 8, 22, 2, 23, 24, 25, 26, 27, 28, 29, 30, 31, 32, 37, 38, 39, 40, 41, 42, 43, 44, 45, 46, 47, 48, 49, 50, 51, 52, 53, 54, 55, 56, 57, 58, 59, 60, 61, 62, 63, 64, 65, 66, 67, 68, 69, 70, 71, 72, 73, 74] (by decide +kernel) (by decide +kernel)
set_option maxRecDepth 20000 in
theorem gX9_wall_X9_does : GoodIn wsX9_wall (wsV RX9 217 RX9 yX9_does wsX9_does) := goodIn_app (goodIn_of _ (by decide +kernel)) ggX9_wall_X9_does
set_option maxRecDepth 20000 in
theorem ggX9_wall_X9_goes : GoodIn wsX9_wall wsX9_goes := goodIn_r _ [36, 2, 3, 4, 37, 38, 39, 40, 41, 42, 43, 44, 45, 46, 47, 48, 49, 50, 51, 52, 53, 54, 55, 56, 57, 58, 59, 60, 61, 62, 63, 64, 65, 66, 67, 68, 69, 70, 71, 72, 73, 74] (by decide +kernel) (by decide +kernel)
set_option maxRecDepth 20000 in
theorem gX9_wall_X9_goes : GoodIn wsX9_wall (wsV RX9 220 RX9 yX9_goes wsX9_goes) := goodIn_app (goodIn_of _ (by decide +kernel)) ggX9_wall_X9_goes
theorem dX9_wall_0 : decode cX9_wall 0 = .ok (.aload_n 0, 1) := by decide +kernel
theorem dX9_wall_1 : decode cX9_wall 1 = .ok (.iload_n 1, 1) := by decide +kernel
theorem dX9_wall_2 : decode cX9_wall 2 = .ok (.invokevirtual 212, 3) := by decide +kernel
theorem dX9_wall_5 : decode cX9_wall 5 = .ok (.ifCond .eq 15, 3) := by decide +kernel
theorem dX9_wall_8 : decode cX9_wall 8 = .ok (.iload_n 2, 1) := by decide +kernel
theorem dX9_wall_9 : decode cX9_wall 9 = .ok (.i2l, 1) := by decide +kernel
theorem dX9_wall_10 : decode cX9_wall 10 = .ok (.lconst 0, 1) := by decide +kernel
theorem dX9_wall_11 : decode cX9_wall 11 = .ok (.ldc2_w 215, 3) := by decide +kernel
theorem dX9_wall_14 : decode cX9_wall 14 = .ok (.invokestatic 117, 3) := by decide +kernel
theorem dX9_wall_17 : decode cX9_wall 17 = .ok (.ifCond .ne 5, 3) := by decide +kernel
theorem dX9_wall_20 : decode cX9_wall 20 = .ok (.iconst (-1), 1) := by decide +kernel
theorem dX9_wall_21 : decode cX9_wall 21 = .ok (.ireturn, 1) := by decide +kernel
theorem dX9_wall_22 : decode cX9_wall 22 = .ok (.aload_n 0, 1) := by decide +kernel
theorem dX9_wall_23 : decode cX9_wall 23 = .ok (.iconst 0, 1) := by decide +kernel
theorem dX9_wall_24 : decode cX9_wall 24 = .ok (.aload_n 0, 1) := by decide +kernel
theorem dX9_wall_25 : decode cX9_wall 25 = .ok (.getfield 16, 3) := by decide +kernel
theorem dX9_wall_28 : decode cX9_wall 28 = .ok (.iload_n 1, 1) := by decide +kernel
theorem dX9_wall_29 : decode cX9_wall 29 = .ok (.iaload, 1) := by decide +kernel
theorem dX9_wall_30 : decode cX9_wall 30 = .ok (.iload_n 1, 1) := by decide +kernel
theorem dX9_wall_31 : decode cX9_wall 31 = .ok (.invokevirtual 217, 3) := by decide +kernel
theorem dX9_wall_34 : decode cX9_wall 34 = .ok (.istore_n 3, 1) := by decide +kernel
theorem dX9_wall_35 : decode cX9_wall 35 = .ok (.aload_n 0, 1) := by decide +kernel
theorem dX9_wall_36 : decode cX9_wall 36 = .ok (.iconst 0, 1) := by decide +kernel
theorem dX9_wall_37 : decode cX9_wall 37 = .ok (.aload_n 0, 1) := by decide +kernel
theorem dX9_wall_38 : decode cX9_wall 38 = .ok (.getfield 19, 3) := by decide +kernel
theorem dX9_wall_41 : decode cX9_wall 41 = .ok (.iload_n 1, 1) := by decide +kernel
theorem dX9_wall_42 : decode cX9_wall 42 = .ok (.iaload, 1) := by decide +kernel
theorem dX9_wall_43 : decode cX9_wall 43 = .ok (.iload_n 1, 1) := by decide +kernel
theorem dX9_wall_44 : decode cX9_wall 44 = .ok (.invokevirtual 217, 3) := by decide +kernel
theorem dX9_wall_47 : decode cX9_wall 47 = .ok (.istore 4, 2) := by decide +kernel
theorem dX9_wall_49 : decode cX9_wall 49 = .ok (.iload_n 2, 1) := by decide +kernel
theorem dX9_wall_50 : decode cX9_wall 50 = .ok (.ifCond .ne 12, 3) := by decide +kernel
theorem dX9_wall_53 : decode cX9_wall 53 = .ok (.aload_n 0, 1) := by decide +kernel
theorem dX9_wall_54 : decode cX9_wall 54 = .ok (.getfield 16, 3) := by decide +kernel
theorem dX9_wall_57 : decode cX9_wall 57 = .ok (.iload_n 1, 1) := by decide +kernel
theorem dX9_wall_58 : decode cX9_wall 58 = .ok (.iaload, 1) := by decide +kernel
theorem dX9_wall_59 : decode cX9_wall 59 = .ok (.goto 100, 3) := by decide +kernel
theorem dX9_wall_62 : decode cX9_wall 62 = .ok (.iload_n 2, 1) := by decide +kernel
theorem dX9_wall_63 : decode cX9_wall 63 = .ok (.iconst 1, 1) := by decide +kernel
theorem dX9_wall_64 : decode cX9_wall 64 = .ok (.if_icmp .ne 12, 3) := by decide +kernel
theorem dX9_wall_67 : decode cX9_wall 67 = .ok (.aload_n 0, 1) := by decide +kernel
theorem dX9_wall_68 : decode cX9_wall 68 = .ok (.getfield 19, 3) := by decide +kernel
theorem dX9_wall_71 : decode cX9_wall 71 = .ok (.iload_n 1, 1) := by decide +kernel
theorem dX9_wall_72 : decode cX9_wall 72 = .ok (.iaload, 1) := by decide +kernel
theorem dX9_wall_73 : decode cX9_wall 73 = .ok (.goto 86, 3) := by decide +kernel
theorem dX9_wall_76 : decode cX9_wall 76 = .ok (.iload_n 2, 1) := by decide +kernel
theorem dX9_wall_77 : decode cX9_wall 77 = .ok (.iconst 2, 1) := by decide +kernel
theorem dX9_wall_78 : decode cX9_wall 78 = .ok (.if_icmp .ne 18, 3) := by decide +kernel
theorem dX9_wall_81 : decode cX9_wall 81 = .ok (.aload_n 0, 1) := by decide +kernel
theorem dX9_wall_82 : decode cX9_wall 82 = .ok (.getfield 46, 3) := by decide +kernel
theorem dX9_wall_85 : decode cX9_wall 85 = .ok (.bipush 6, 2) := by decide +kernel
theorem dX9_wall_87 : decode cX9_wall 87 = .ok (.iload_n 1, 1) := by decide +kernel
theorem dX9_wall_88 : decode cX9_wall 88 = .ok (.iadd, 1) := by decide +kernel
theorem dX9_wall_89 : decode cX9_wall 89 = .ok (.iaload, 1) := by decide +kernel
theorem dX9_wall_90 : decode cX9_wall 90 = .ok (.bipush 50, 2) := by decide +kernel
theorem dX9_wall_92 : decode cX9_wall 92 = .ok (.iadd, 1) := by decide +kernel
theorem dX9_wall_93 : decode cX9_wall 93 = .ok (.goto 66, 3) := by decide +kernel
theorem dX9_wall_96 : decode cX9_wall 96 = .ok (.iload_n 2, 1) := by decide +kernel
theorem dX9_wall_97 : decode cX9_wall 97 = .ok (.iconst 3, 1) := by decide +kernel
theorem dX9_wall_98 : decode cX9_wall 98 = .ok (.if_icmp .ne 15, 3) := by decide +kernel
theorem dX9_wall_101 : decode cX9_wall 101 = .ok (.aload_n 0, 1) := by decide +kernel
theorem dX9_wall_102 : decode cX9_wall 102 = .ok (.getfield 46, 3) := by decide +kernel
theorem dX9_wall_105 : decode cX9_wall 105 = .ok (.bipush 15, 2) := by decide +kernel
theorem dX9_wall_107 : decode cX9_wall 107 = .ok (.iload_n 1, 1) := by decide +kernel
theorem dX9_wall_108 : decode cX9_wall 108 = .ok (.iadd, 1) := by decide +kernel
theorem dX9_wall_109 : decode cX9_wall 109 = .ok (.iaload, 1) := by decide +kernel
theorem dX9_wall_110 : decode cX9_wall 110 = .ok (.goto 49, 3) := by decide +kernel
theorem dX9_wall_113 : decode cX9_wall 113 = .ok (.iload_n 2, 1) := by decide +kernel
theorem dX9_wall_114 : decode cX9_wall 114 = .ok (.iconst 4, 1) := by decide +kernel
theorem dX9_wall_115 : decode cX9_wall 115 = .ok (.if_icmp .ne 15, 3) := by decide +kernel
theorem dX9_wall_118 : decode cX9_wall 118 = .ok (.aload_n 0, 1) := by decide +kernel
theorem dX9_wall_119 : decode cX9_wall 119 = .ok (.getfield 46, 3) := by decide +kernel
theorem dX9_wall_122 : decode cX9_wall 122 = .ok (.bipush 24, 2) := by decide +kernel
theorem dX9_wall_124 : decode cX9_wall 124 = .ok (.iload_n 1, 1) := by decide +kernel
theorem dX9_wall_125 : decode cX9_wall 125 = .ok (.iadd, 1) := by decide +kernel
theorem dX9_wall_126 : decode cX9_wall 126 = .ok (.iaload, 1) := by decide +kernel
theorem dX9_wall_127 : decode cX9_wall 127 = .ok (.goto 32, 3) := by decide +kernel
theorem dX9_wall_130 : decode cX9_wall 130 = .ok (.iload_n 2, 1) := by decide +kernel
theorem dX9_wall_131 : decode cX9_wall 131 = .ok (.iconst 5, 1) := by decide +kernel
theorem dX9_wall_132 : decode cX9_wall 132 = .ok (.if_icmp .ne 7, 3) := by decide +kernel
theorem dX9_wall_135 : decode cX9_wall 135 = .ok (.iload_n 3, 1) := by decide +kernel
theorem dX9_wall_136 : decode cX9_wall 136 = .ok (.goto 23, 3) := by decide +kernel
theorem dX9_wall_139 : decode cX9_wall 139 = .ok (.iload_n 2, 1) := by decide +kernel
theorem dX9_wall_140 : decode cX9_wall 140 = .ok (.bipush 6, 2) := by decide +kernel
theorem dX9_wall_142 : decode cX9_wall 142 = .ok (.if_icmp .ne 8, 3) := by decide +kernel
theorem dX9_wall_145 : decode cX9_wall 145 = .ok (.iload 4, 2) := by decide +kernel
theorem dX9_wall_147 : decode cX9_wall 147 = .ok (.goto 12, 3) := by decide +kernel
theorem dX9_wall_150 : decode cX9_wall 150 = .ok (.aload_n 0, 1) := by decide +kernel
theorem dX9_wall_151 : decode cX9_wall 151 = .ok (.iconst 0, 1) := by decide +kernel
theorem dX9_wall_152 : decode cX9_wall 152 = .ok (.iload_n 1, 1) := by decide +kernel
theorem dX9_wall_153 : decode cX9_wall 153 = .ok (.iload_n 3, 1) := by decide +kernel
theorem dX9_wall_154 : decode cX9_wall 154 = .ok (.iload 4, 2) := by decide +kernel
theorem dX9_wall_156 : decode cX9_wall 156 = .ok (.invokevirtual 220, 3) := by decide +kernel
theorem dX9_wall_159 : decode cX9_wall 159 = .ok (.ireturn, 1) := by decide +kernel
set_option maxRecDepth 20000 in
theorem ggX9_tree_X9_in : GoodIn wsX9_tree wsX9_in := goodIn_r _ [5] (by decide +kernel) (by decide +kernel)
set_option maxRecDepth 20000 in
theorem gX9_tree_X9_in : GoodIn wsX9_tree (va_wsS RX9 117 yX9_in wsX9_in) := goodIn_app (goodIn_of _ (by decide +kernel)) ggX9_tree_X9_in
set_option maxRecDepth 20000 in
theorem ggX9_tree_X9_whose : GoodIn wsX9_tree wsX9_whose := goodIn_r _ [9, 10, 11, 12, 13, 14, 15, 16, 17, 18, 19, 20, 21, 22, 23, 24, 25, 26, 27, 28, 29, 30, 31, 32, 33, 34, 35, 36, 37, 38, 39, 40, 41, 42, 43, 44, 45, 46, 47, 48, 49, 50, 51, 52] (by decide +kernel) (by decide +kernel)
set_option maxRecDepth 20000 in
theorem gX9_tree_X9_whose : GoodIn wsX9_tree (wsV RX9 201 RX9 yX9_whose wsX9_whose) := goodIn_app (goodIn_of _ (by decide +kernel)) ggX9_tree_X9_whose
theorem dX9_tree_0 : decode cX9_tree 0 = .ok (.iload_n 1, 1) := by decide +kernel
theorem dX9_tree_1 : decode cX9_tree 1 = .ok (.i2l, 1) := by decide +kernel
theorem dX9_tree_2 : decode cX9_tree 2 = .ok (.lconst 0, 1) := by decide +kernel
theorem dX9_tree_3 : decode cX9_tree 3 = .ok (.aload_n 0, 1) := by decide +kernel
theorem dX9_tree_4 : decode cX9_tree 4 = .ok (.getfield 114, 3) := by decide +kernel
theorem dX9_tree_7 : decode cX9_tree 7 = .ok (.iconst 1, 1) := by decide +kernel
theorem dX9_tree_8 : decode cX9_tree 8 = .ok (.isub, 1) := by decide +kernel
theorem dX9_tree_9 : decode cX9_tree 9 = .ok (.i2l, 1) := by decide +kernel
theorem dX9_tree_10 : decode cX9_tree 10 = .ok (.invokestatic 117, 3) := by decide +kernel
theorem dX9_tree_13 : decode cX9_tree 13 = .ok (.ifCond .eq 12, 3) := by decide +kernel
theorem dX9_tree_16 : decode cX9_tree 16 = .ok (.aload_n 0, 1) := by decide +kernel
theorem dX9_tree_17 : decode cX9_tree 17 = .ok (.iconst 0, 1) := by decide +kernel
theorem dX9_tree_18 : decode cX9_tree 18 = .ok (.iload_n 1, 1) := by decide +kernel
theorem dX9_tree_19 : decode cX9_tree 19 = .ok (.invokevirtual 201, 3) := by decide +kernel
theorem dX9_tree_22 : decode cX9_tree 22 = .ok (.goto 4, 3) := by decide +kernel
theorem dX9_tree_25 : decode cX9_tree 25 = .ok (.iconst (-1), 1) := by decide +kernel
theorem dX9_tree_26 : decode cX9_tree 26 = .ok (.ireturn, 1) := by decide +kernel
set_option maxRecDepth 20000 in
theorem ggX9_known_X9_copies : GoodIn wsX9_known wsX9_copies := goodIn_r _ [7, 2, 8, 9, 10, 11, 12, 13, 14, 15, 16, 17, 18, 19, 20, 21, 22, 23, 24, 25, 26, 27, 28, 29, 30, 31, 32, 33, 34, 35, 36, 37, 38, 39, 40, 41, 42, 43, 44, 45] (by decide +kernel) (by decide +kernel)
set_option maxRecDepth 20000 in
theorem gX9_known_X9_copies : GoodIn wsX9_known (wsV RX9 175 RX9 yX9_copies wsX9_copies) := goodIn_app (goodIn_of _ (by decide +kernel)) ggX9_known_X9_copies
theorem dX9_known_0 : decode cX9_known 0 = .ok (.aload_n 0, 1) := by decide +kernel
theorem dX9_known_1 : decode cX9_known 1 = .ok (.getfield 178, 3) := by decide +kernel
theorem dX9_known_4 : decode cX9_known 4 = .ok (.bipush 8, 2) := by decide +kernel
theorem dX9_known_6 : decode cX9_known 6 = .ok (.if_icmp .ne 40, 3) := by decide +kernel
theorem dX9_known_9 : decode cX9_known 9 = .ok (.bipush 35, 2) := by decide +kernel
theorem dX9_known_11 : decode cX9_known 11 = .ok (.istore_n 1, 1) := by decide +kernel
theorem dX9_known_12 : decode cX9_known 12 = .ok (.iload_n 1, 1) := by decide +kernel
theorem dX9_known_13 : decode cX9_known 13 = .ok (.sipush 280, 3) := by decide +kernel
theorem dX9_known_16 : decode cX9_known 16 = .ok (.if_icmp .ge 24, 3) := by decide +kernel
theorem dX9_known_19 : decode cX9_known 19 = .ok (.aload_n 0, 1) := by decide +kernel
theorem dX9_known_20 : decode cX9_known 20 = .ok (.getfield 46, 3) := by decide +kernel
theorem dX9_known_23 : decode cX9_known 23 = .ok (.iload_n 1, 1) := by decide +kernel
theorem dX9_known_24 : decode cX9_known 24 = .ok (.aload_n 0, 1) := by decide +kernel
theorem dX9_known_25 : decode cX9_known 25 = .ok (.getfield 46, 3) := by decide +kernel
theorem dX9_known_28 : decode cX9_known 28 = .ok (.iload_n 1, 1) := by decide +kernel
theorem dX9_known_29 : decode cX9_known 29 = .ok (.bipush 35, 2) := by decide +kernel
theorem dX9_known_31 : decode cX9_known 31 = .ok (.iadd, 1) := by decide +kernel
theorem dX9_known_32 : decode cX9_known 32 = .ok (.iaload, 1) := by decide +kernel
theorem dX9_known_33 : decode cX9_known 33 = .ok (.iastore, 1) := by decide +kernel
theorem dX9_known_34 : decode cX9_known 34 = .ok (.iinc 1 1, 3) := by decide +kernel
theorem dX9_known_37 : decode cX9_known 37 = .ok (.goto (-25), 3) := by decide +kernel
theorem dX9_known_40 : decode cX9_known 40 = .ok (.aload_n 0, 1) := by decide +kernel
theorem dX9_known_41 : decode cX9_known 41 = .ok (.bipush 7, 2) := by decide +kernel
theorem dX9_known_43 : decode cX9_known 43 = .ok (.putfield 178, 3) := by decide +kernel
theorem dX9_known_46 : decode cX9_known 46 = .ok (.aload_n 0, 1) := by decide +kernel
theorem dX9_known_47 : decode cX9_known 47 = .ok (.dup, 1) := by decide +kernel
theorem dX9_known_48 : decode cX9_known 48 = .ok (.getfield 178, 3) := by decide +kernel
theorem dX9_known_51 : decode cX9_known 51 = .ok (.iconst 1, 1) := by decide +kernel
theorem dX9_known_52 : decode cX9_known 52 = .ok (.iadd, 1) := by decide +kernel
theorem dX9_known_53 : decode cX9_known 53 = .ok (.putfield 178, 3) := by decide +kernel
theorem dX9_known_56 : decode cX9_known 56 = .ok (.aload_n 0, 1) := by decide +kernel
theorem dX9_known_57 : decode cX9_known 57 = .ok (.iconst 0, 1) := by decide +kernel
theorem dX9_known_58 : decode cX9_known 58 = .ok (.aload_n 0, 1) := by decide +kernel
theorem dX9_known_59 : decode cX9_known 59 = .ok (.getfield 178, 3) := by decide +kernel
theorem dX9_known_62 : decode cX9_known 62 = .ok (.bipush 35, 2) := by decide +kernel
theorem dX9_known_64 : decode cX9_known 64 = .ok (.imul, 1) := by decide +kernel
theorem dX9_known_65 : decode cX9_known 65 = .ok (.invokevirtual 175, 3) := by decide +kernel
theorem dX9_known_68 : decode cX9_known 68 = .ok (.return_, 1) := by decide +kernel
set_option maxRecDepth 20000 in
theorem ggX9_passes_X9_has : GoodIn wsX9_passes wsX9_has := goodIn_r _ [11] (by decide +kernel) (by decide +kernel)
set_option maxRecDepth 20000 in
theorem gX9_passes_X9_has : GoodIn wsX9_passes (va_wsS RX9 191 yX9_has wsX9_has) := goodIn_app (goodIn_of _ (by decide +kernel)) ggX9_passes_X9_has
set_option maxRecDepth 20000 in
theorem ggX9_passes_X9_does : GoodIn wsX9_passes wsX9_does := goodIn_r _ [15, 7, 16, 17, 18, 19, 10, 20, 4, 8, 9, 11, 21, 22, 23, 24, 25, 26, 27, 32, 33, 34, 35, 36, 37, 38, 39, 40, 41, 42, 43, 44, 45, 46, 47, 48, 49, 50, 51, 52, 53, 54, 55, 56, 57, 58, 59, 60, 61, 62, 63, 64, 65, 66, 67, 68, 69] (by decide +kernel) (by decide +kernel)
set_option maxRecDepth 20000 in
theorem gX9_passes_X9_does : GoodIn wsX9_passes (wsV RX9 217 RX9 yX9_does wsX9_does) := goodIn_app (goodIn_of _ (by decide +kernel)) ggX9_passes_X9_does
set_option maxRecDepth 20000 in
theorem ggX9_passes_X9_goes : GoodIn wsX9_passes wsX9_goes := goodIn_r _ [31, 4, 6, 7, 32, 33, 34, 35, 36, 37, 38, 39, 40, 41, 42, 43, 44, 45, 46, 47, 48, 49, 50, 51, 52, 53, 54, 55, 56, 57, 58, 59, 60, 61, 62, 63, 64, 65, 66, 67, 68, 69] (by decide +kernel) (by decide +kernel)
set_option maxRecDepth 20000 in
theorem gX9_passes_X9_goes : GoodIn wsX9_passes (wsV RX9 220 RX9 yX9_goes wsX9_goes) := goodIn_app (goodIn_of _ (by decide +kernel)) ggX9_passes_X9_goes
theorem dX9_passes_0 : decode cX9_passes 0 = .ok (.iconst 0, 1) := by decide +kernel
theorem dX9_passes_1 : decode cX9_passes 1 = .ok (.istore_n 2, 1) := by decide +kernel
theorem dX9_passes_2 : decode cX9_passes 2 = .ok (.iload_n 2, 1) := by decide +kernel
theorem dX9_passes_3 : decode cX9_passes 3 = .ok (.aload_n 0, 1) := by decide +kernel
theorem dX9_passes_4 : decode cX9_passes 4 = .ok (.getfield 111, 3) := by decide +kernel
theorem dX9_passes_7 : decode cX9_passes 7 = .ok (.if_icmp .ge 85, 3) := by decide +kernel
theorem dX9_passes_10 : decode cX9_passes 10 = .ok (.aload_n 0, 1) := by decide +kernel
theorem dX9_passes_11 : decode cX9_passes 11 = .ok (.getfield 62, 3) := by decide +kernel
theorem dX9_passes_14 : decode cX9_passes 14 = .ok (.iload_n 2, 1) := by decide +kernel
theorem dX9_passes_15 : decode cX9_passes 15 = .ok (.aload_n 0, 1) := by decide +kernel
theorem dX9_passes_16 : decode cX9_passes 16 = .ok (.getfield 224, 3) := by decide +kernel
theorem dX9_passes_19 : decode cX9_passes 19 = .ok (.aload_n 0, 1) := by decide +kernel
theorem dX9_passes_20 : decode cX9_passes 20 = .ok (.getfield 16, 3) := by decide +kernel
theorem dX9_passes_23 : decode cX9_passes 23 = .ok (.iload_n 2, 1) := by decide +kernel
theorem dX9_passes_24 : decode cX9_passes 24 = .ok (.iaload, 1) := by decide +kernel
theorem dX9_passes_25 : decode cX9_passes 25 = .ok (.invokestatic 191, 3) := by decide +kernel
theorem dX9_passes_28 : decode cX9_passes 28 = .ok (.ifCond .eq 7, 3) := by decide +kernel
theorem dX9_passes_31 : decode cX9_passes 31 = .ok (.iconst 0, 1) := by decide +kernel
theorem dX9_passes_32 : decode cX9_passes 32 = .ok (.goto 15, 3) := by decide +kernel
theorem dX9_passes_35 : decode cX9_passes 35 = .ok (.aload_n 0, 1) := by decide +kernel
theorem dX9_passes_36 : decode cX9_passes 36 = .ok (.iload_n 1, 1) := by decide +kernel
theorem dX9_passes_37 : decode cX9_passes 37 = .ok (.aload_n 0, 1) := by decide +kernel
theorem dX9_passes_38 : decode cX9_passes 38 = .ok (.getfield 16, 3) := by decide +kernel
theorem dX9_passes_41 : decode cX9_passes 41 = .ok (.iload_n 2, 1) := by decide +kernel
theorem dX9_passes_42 : decode cX9_passes 42 = .ok (.iaload, 1) := by decide +kernel
theorem dX9_passes_43 : decode cX9_passes 43 = .ok (.iload_n 2, 1) := by decide +kernel
theorem dX9_passes_44 : decode cX9_passes 44 = .ok (.invokevirtual 217, 3) := by decide +kernel
theorem dX9_passes_47 : decode cX9_passes 47 = .ok (.iastore, 1) := by decide +kernel
theorem dX9_passes_48 : decode cX9_passes 48 = .ok (.aload_n 0, 1) := by decide +kernel
theorem dX9_passes_49 : decode cX9_passes 49 = .ok (.getfield 65, 3) := by decide +kernel
theorem dX9_passes_52 : decode cX9_passes 52 = .ok (.iload_n 2, 1) := by decide +kernel
theorem dX9_passes_53 : decode cX9_passes 53 = .ok (.aload_n 0, 1) := by decide +kernel
theorem dX9_passes_54 : decode cX9_passes 54 = .ok (.getfield 224, 3) := by decide +kernel
theorem dX9_passes_57 : decode cX9_passes 57 = .ok (.aload_n 0, 1) := by decide +kernel
theorem dX9_passes_58 : decode cX9_passes 58 = .ok (.getfield 19, 3) := by decide +kernel
theorem dX9_passes_61 : decode cX9_passes 61 = .ok (.iload_n 2, 1) := by decide +kernel
theorem dX9_passes_62 : decode cX9_passes 62 = .ok (.iaload, 1) := by decide +kernel
theorem dX9_passes_63 : decode cX9_passes 63 = .ok (.invokestatic 191, 3) := by decide +kernel
theorem dX9_passes_66 : decode cX9_passes 66 = .ok (.ifCond .eq 7, 3) := by decide +kernel
theorem dX9_passes_69 : decode cX9_passes 69 = .ok (.iconst 0, 1) := by decide +kernel
theorem dX9_passes_70 : decode cX9_passes 70 = .ok (.goto 15, 3) := by decide +kernel
theorem dX9_passes_73 : decode cX9_passes 73 = .ok (.aload_n 0, 1) := by decide +kernel
theorem dX9_passes_74 : decode cX9_passes 74 = .ok (.iload_n 1, 1) := by decide +kernel
theorem dX9_passes_75 : decode cX9_passes 75 = .ok (.aload_n 0, 1) := by decide +kernel
theorem dX9_passes_76 : decode cX9_passes 76 = .ok (.getfield 19, 3) := by decide +kernel
theorem dX9_passes_79 : decode cX9_passes 79 = .ok (.iload_n 2, 1) := by decide +kernel
theorem dX9_passes_80 : decode cX9_passes 80 = .ok (.iaload, 1) := by decide +kernel
theorem dX9_passes_81 : decode cX9_passes 81 = .ok (.iload_n 2, 1) := by decide +kernel
theorem dX9_passes_82 : decode cX9_passes 82 = .ok (.invokevirtual 217, 3) := by decide +kernel
theorem dX9_passes_85 : decode cX9_passes 85 = .ok (.iastore, 1) := by decide +kernel
theorem dX9_passes_86 : decode cX9_passes 86 = .ok (.iinc 2 1, 3) := by decide +kernel
theorem dX9_passes_89 : decode cX9_passes 89 = .ok (.goto (-87), 3) := by decide +kernel
theorem dX9_passes_92 : decode cX9_passes 92 = .ok (.iconst 0, 1) := by decide +kernel
theorem dX9_passes_93 : decode cX9_passes 93 = .ok (.istore_n 2, 1) := by decide +kernel
theorem dX9_passes_94 : decode cX9_passes 94 = .ok (.iconst 0, 1) := by decide +kernel
theorem dX9_passes_95 : decode cX9_passes 95 = .ok (.istore_n 3, 1) := by decide +kernel
theorem dX9_passes_96 : decode cX9_passes 96 = .ok (.iload_n 3, 1) := by decide +kernel
theorem dX9_passes_97 : decode cX9_passes 97 = .ok (.aload_n 0, 1) := by decide +kernel
theorem dX9_passes_98 : decode cX9_passes 98 = .ok (.getfield 111, 3) := by decide +kernel
theorem dX9_passes_101 : decode cX9_passes 101 = .ok (.if_icmp .ge 111, 3) := by decide +kernel
theorem dX9_passes_104 : decode cX9_passes 104 = .ok (.aload_n 0, 1) := by decide +kernel
theorem dX9_passes_105 : decode cX9_passes 105 = .ok (.iload_n 1, 1) := by decide +kernel
theorem dX9_passes_106 : decode cX9_passes 106 = .ok (.iload_n 3, 1) := by decide +kernel
theorem dX9_passes_107 : decode cX9_passes 107 = .ok (.aload_n 0, 1) := by decide +kernel
theorem dX9_passes_108 : decode cX9_passes 108 = .ok (.getfield 62, 3) := by decide +kernel
theorem dX9_passes_111 : decode cX9_passes 111 = .ok (.iload_n 3, 1) := by decide +kernel
theorem dX9_passes_112 : decode cX9_passes 112 = .ok (.iaload, 1) := by decide +kernel
theorem dX9_passes_113 : decode cX9_passes 113 = .ok (.aload_n 0, 1) := by decide +kernel
theorem dX9_passes_114 : decode cX9_passes 114 = .ok (.getfield 65, 3) := by decide +kernel
theorem dX9_passes_117 : decode cX9_passes 117 = .ok (.iload_n 3, 1) := by decide +kernel
theorem dX9_passes_118 : decode cX9_passes 118 = .ok (.iaload, 1) := by decide +kernel
theorem dX9_passes_119 : decode cX9_passes 119 = .ok (.invokevirtual 220, 3) := by decide +kernel
theorem dX9_passes_122 : decode cX9_passes 122 = .ok (.istore 4, 2) := by decide +kernel
theorem dX9_passes_124 : decode cX9_passes 124 = .ok (.iload 4, 2) := by decide +kernel
theorem dX9_passes_126 : decode cX9_passes 126 = .ok (.ifCond .lt 80, 3) := by decide +kernel
theorem dX9_passes_129 : decode cX9_passes 129 = .ok (.aload_n 0, 1) := by decide +kernel
theorem dX9_passes_130 : decode cX9_passes 130 = .ok (.getfield 16, 3) := by decide +kernel
theorem dX9_passes_133 : decode cX9_passes 133 = .ok (.iload_n 3, 1) := by decide +kernel
theorem dX9_passes_134 : decode cX9_passes 134 = .ok (.iaload, 1) := by decide +kernel
theorem dX9_passes_135 : decode cX9_passes 135 = .ok (.aload_n 0, 1) := by decide +kernel
theorem dX9_passes_136 : decode cX9_passes 136 = .ok (.getfield 19, 3) := by decide +kernel
theorem dX9_passes_139 : decode cX9_passes 139 = .ok (.iload_n 3, 1) := by decide +kernel
theorem dX9_passes_140 : decode cX9_passes 140 = .ok (.iaload, 1) := by decide +kernel
theorem dX9_passes_141 : decode cX9_passes 141 = .ok (.iadd, 1) := by decide +kernel
theorem dX9_passes_142 : decode cX9_passes 142 = .ok (.iload 4, 2) := by decide +kernel
theorem dX9_passes_144 : decode cX9_passes 144 = .ok (.isub, 1) := by decide +kernel
theorem dX9_passes_145 : decode cX9_passes 145 = .ok (.istore 5, 2) := by decide +kernel
theorem dX9_passes_147 : decode cX9_passes 147 = .ok (.aload_n 0, 1) := by decide +kernel
theorem dX9_passes_148 : decode cX9_passes 148 = .ok (.getfield 46, 3) := by decide +kernel
theorem dX9_passes_151 : decode cX9_passes 151 = .ok (.iload_n 1, 1) := by decide +kernel
theorem dX9_passes_152 : decode cX9_passes 152 = .ok (.iload 4, 2) := by decide +kernel
theorem dX9_passes_154 : decode cX9_passes 154 = .ok (.iadd, 1) := by decide +kernel
theorem dX9_passes_155 : decode cX9_passes 155 = .ok (.dup2, 1) := by decide +kernel
theorem dX9_passes_156 : decode cX9_passes 156 = .ok (.iaload, 1) := by decide +kernel
theorem dX9_passes_157 : decode cX9_passes 157 = .ok (.iconst 1, 1) := by decide +kernel
theorem dX9_passes_158 : decode cX9_passes 158 = .ok (.isub, 1) := by decide +kernel
theorem dX9_passes_159 : decode cX9_passes 159 = .ok (.iastore, 1) := by decide +kernel
theorem dX9_passes_160 : decode cX9_passes 160 = .ok (.aload_n 0, 1) := by decide +kernel
theorem dX9_passes_161 : decode cX9_passes 161 = .ok (.getfield 46, 3) := by decide +kernel
theorem dX9_passes_164 : decode cX9_passes 164 = .ok (.iload_n 1, 1) := by decide +kernel
theorem dX9_passes_165 : decode cX9_passes 165 = .ok (.iload 5, 2) := by decide +kernel
theorem dX9_passes_167 : decode cX9_passes 167 = .ok (.iadd, 1) := by decide +kernel
theorem dX9_passes_168 : decode cX9_passes 168 = .ok (.dup2, 1) := by decide +kernel
theorem dX9_passes_169 : decode cX9_passes 169 = .ok (.iaload, 1) := by decide +kernel
theorem dX9_passes_170 : decode cX9_passes 170 = .ok (.iconst 1, 1) := by decide +kernel
theorem dX9_passes_171 : decode cX9_passes 171 = .ok (.iadd, 1) := by decide +kernel
theorem dX9_passes_172 : decode cX9_passes 172 = .ok (.iastore, 1) := by decide +kernel
theorem dX9_passes_173 : decode cX9_passes 173 = .ok (.aload_n 0, 1) := by decide +kernel
theorem dX9_passes_174 : decode cX9_passes 174 = .ok (.getfield 46, 3) := by decide +kernel
theorem dX9_passes_177 : decode cX9_passes 177 = .ok (.iload_n 1, 1) := by decide +kernel
theorem dX9_passes_178 : decode cX9_passes 178 = .ok (.bipush 6, 2) := by decide +kernel
theorem dX9_passes_180 : decode cX9_passes 180 = .ok (.iadd, 1) := by decide +kernel
theorem dX9_passes_181 : decode cX9_passes 181 = .ok (.iload_n 3, 1) := by decide +kernel
theorem dX9_passes_182 : decode cX9_passes 182 = .ok (.iadd, 1) := by decide +kernel
theorem dX9_passes_183 : decode cX9_passes 183 = .ok (.dup2, 1) := by decide +kernel
theorem dX9_passes_184 : decode cX9_passes 184 = .ok (.iaload, 1) := by decide +kernel
theorem dX9_passes_185 : decode cX9_passes 185 = .ok (.iload 4, 2) := by decide +kernel
theorem dX9_passes_187 : decode cX9_passes 187 = .ok (.aload_n 0, 1) := by decide +kernel
theorem dX9_passes_188 : decode cX9_passes 188 = .ok (.getfield 19, 3) := by decide +kernel
theorem dX9_passes_191 : decode cX9_passes 191 = .ok (.iload_n 3, 1) := by decide +kernel
theorem dX9_passes_192 : decode cX9_passes 192 = .ok (.iaload, 1) := by decide +kernel
theorem dX9_passes_193 : decode cX9_passes 193 = .ok (.if_icmp .ne 7, 3) := by decide +kernel
theorem dX9_passes_196 : decode cX9_passes 196 = .ok (.iconst 1, 1) := by decide +kernel
theorem dX9_passes_197 : decode cX9_passes 197 = .ok (.goto 4, 3) := by decide +kernel
theorem dX9_passes_200 : decode cX9_passes 200 = .ok (.iconst (-1), 1) := by decide +kernel
theorem dX9_passes_201 : decode cX9_passes 201 = .ok (.iadd, 1) := by decide +kernel
theorem dX9_passes_202 : decode cX9_passes 202 = .ok (.iastore, 1) := by decide +kernel
theorem dX9_passes_203 : decode cX9_passes 203 = .ok (.iinc 2 1, 3) := by decide +kernel
theorem dX9_passes_206 : decode cX9_passes 206 = .ok (.iinc 3 1, 3) := by decide +kernel
theorem dX9_passes_209 : decode cX9_passes 209 = .ok (.goto (-113), 3) := by decide +kernel
theorem dX9_passes_212 : decode cX9_passes 212 = .ok (.aload_n 0, 1) := by decide +kernel
theorem dX9_passes_213 : decode cX9_passes 213 = .ok (.getfield 46, 3) := by decide +kernel
theorem dX9_passes_216 : decode cX9_passes 216 = .ok (.iload_n 1, 1) := by decide +kernel
theorem dX9_passes_217 : decode cX9_passes 217 = .ok (.bipush 34, 2) := by decide +kernel
theorem dX9_passes_219 : decode cX9_passes 219 = .ok (.iadd, 1) := by decide +kernel
theorem dX9_passes_220 : decode cX9_passes 220 = .ok (.dup2, 1) := by decide +kernel
theorem dX9_passes_221 : decode cX9_passes 221 = .ok (.iaload, 1) := by decide +kernel
theorem dX9_passes_222 : decode cX9_passes 222 = .ok (.iconst 1, 1) := by decide +kernel
theorem dX9_passes_223 : decode cX9_passes 223 = .ok (.iadd, 1) := by decide +kernel
theorem dX9_passes_224 : decode cX9_passes 224 = .ok (.iastore, 1) := by decide +kernel
theorem dX9_passes_225 : decode cX9_passes 225 = .ok (.iload_n 2, 1) := by decide +kernel
theorem dX9_passes_226 : decode cX9_passes 226 = .ok (.ireturn, 1) := by decide +kernel
set_option maxRecDepth 20000 in
theorem ggX9_passesBy_X9_passes : GoodIn wsX9_passesBy wsX9_passes := goodIn_r _ [5, 6, 7, 8, 9, 10, 11, 12, 13, 14, 4, 15, 16, 17, 18, 19, 20, 21, 22, 23, 24, 25, 26, 27, 28, 29, 30, 31, 32, 33, 34, 35, 36, 37, 38, 39, 40, 41, 42, 43, 44, 45, 46, 47, 48, 49, 50, 51, 52, 53, 54, 55, 56, 57, 58, 59, 60, 61, 62, 63, 64, 65, 66, 67, 68, 69, 70, 71, 72, 73] (by decide +kernel) (by decide +kernel)
set_option maxRecDepth 20000 in
theorem gX9_passesBy_X9_passes : GoodIn wsX9_passesBy (wsV RX9 227 RX9 yX9_passes wsX9_passes) := goodIn_app (goodIn_of _ (by decide +kernel)) ggX9_passesBy_X9_passes
theorem dX9_passesBy_0 : decode cX9_passesBy 0 = .ok (.iconst 0, 1) := by decide +kernel
theorem dX9_passesBy_1 : decode cX9_passesBy 1 = .ok (.istore_n 3, 1) := by decide +kernel
theorem dX9_passesBy_2 : decode cX9_passesBy 2 = .ok (.iconst 0, 1) := by decide +kernel
theorem dX9_passesBy_3 : decode cX9_passesBy 3 = .ok (.istore 4, 2) := by decide +kernel
theorem dX9_passesBy_5 : decode cX9_passesBy 5 = .ok (.iload 4, 2) := by decide +kernel
theorem dX9_passesBy_7 : decode cX9_passesBy 7 = .ok (.iload_n 2, 1) := by decide +kernel
theorem dX9_passesBy_8 : decode cX9_passesBy 8 = .ok (.if_icmp .ge 17, 3) := by decide +kernel
theorem dX9_passesBy_11 : decode cX9_passesBy 11 = .ok (.iload_n 3, 1) := by decide +kernel
theorem dX9_passesBy_12 : decode cX9_passesBy 12 = .ok (.aload_n 0, 1) := by decide +kernel
theorem dX9_passesBy_13 : decode cX9_passesBy 13 = .ok (.iload_n 1, 1) := by decide +kernel
theorem dX9_passesBy_14 : decode cX9_passesBy 14 = .ok (.invokevirtual 227, 3) := by decide +kernel
theorem dX9_passesBy_17 : decode cX9_passesBy 17 = .ok (.iadd, 1) := by decide +kernel
theorem dX9_passesBy_18 : decode cX9_passesBy 18 = .ok (.istore_n 3, 1) := by decide +kernel
theorem dX9_passesBy_19 : decode cX9_passesBy 19 = .ok (.iinc 4 1, 3) := by decide +kernel
theorem dX9_passesBy_22 : decode cX9_passesBy 22 = .ok (.goto (-17), 3) := by decide +kernel
theorem dX9_passesBy_25 : decode cX9_passesBy 25 = .ok (.iload_n 3, 1) := by decide +kernel
theorem dX9_passesBy_26 : decode cX9_passesBy 26 = .ok (.ireturn, 1) := by decide +kernel
set_option maxRecDepth 20000 in
theorem ggX9_pass_X9_in : GoodIn wsX9_pass wsX9_in := goodIn_r _ [6] (by decide +kernel) (by decide +kernel)
set_option maxRecDepth 20000 in
theorem gX9_pass_X9_in : GoodIn wsX9_pass (va_wsS RX9 117 yX9_in wsX9_in) := goodIn_app (goodIn_of _ (by decide +kernel)) ggX9_pass_X9_in
set_option maxRecDepth 20000 in
theorem ggX9_pass_X9_known : GoodIn wsX9_pass wsX9_known := goodIn_r _ [10, 11, 2, 12, 13, 14, 5, 15, 53, 54, 55, 56, 57, 58, 59, 60, 61, 62, 63, 64, 65, 66, 67, 68, 69, 70, 71, 72, 73, 74, 75, 76, 77, 78, 79, 80, 81, 82, 83, 84, 85, 86, 87, 88, 89, 90] (by decide +kernel) (by decide +kernel)
set_option maxRecDepth 20000 in
theorem gX9_pass_X9_known : GoodIn wsX9_pass (wsV RX9 232 RX9 yX9_known wsX9_known) := goodIn_app (goodIn_of _ (by decide +kernel)) ggX9_pass_X9_known
set_option maxRecDepth 20000 in
theorem ggX9_pass_X9_passesBy : GoodIn wsX9_pass wsX9_passesBy := goodIn_r _ [19, 20, 21, 22, 5, 23, 24, 25, 26, 27, 28, 29, 2, 30, 31, 32, 33, 34, 35, 36, 37, 38, 39, 40, 41, 42, 43, 44, 45, 46, 47, 48, 49, 50, 51, 52, 53, 54, 55, 56, 57, 58, 59, 60, 61, 62, 63, 64, 65, 66, 67, 68, 69, 70, 71, 72, 73, 74, 75, 76, 77, 78, 79, 80, 81, 82, 83, 84, 85, 86, 87, 88, 89, 90] (by decide +kernel) (by decide +kernel)
set_option maxRecDepth 20000 in
theorem gX9_pass_X9_passesBy : GoodIn wsX9_pass (wsV RX9 235 RX9 yX9_passesBy wsX9_passesBy) := goodIn_app (goodIn_of _ (by decide +kernel)) ggX9_pass_X9_passesBy
theorem dX9_pass_0 : decode cX9_pass 0 = .ok (.iload_n 1, 1) := by decide +kernel
theorem dX9_pass_1 : decode cX9_pass 1 = .ok (.i2l, 1) := by decide +kernel
theorem dX9_pass_2 : decode cX9_pass 2 = .ok (.lconst 1, 1) := by decide +kernel
theorem dX9_pass_3 : decode cX9_pass 3 = .ok (.ldc2_w 230, 3) := by decide +kernel
theorem dX9_pass_6 : decode cX9_pass 6 = .ok (.invokestatic 117, 3) := by decide +kernel
theorem dX9_pass_9 : decode cX9_pass 9 = .ok (.ifCond .ne 5, 3) := by decide +kernel
theorem dX9_pass_12 : decode cX9_pass 12 = .ok (.iconst (-1), 1) := by decide +kernel
theorem dX9_pass_13 : decode cX9_pass 13 = .ok (.ireturn, 1) := by decide +kernel
theorem dX9_pass_14 : decode cX9_pass 14 = .ok (.aload_n 0, 1) := by decide +kernel
theorem dX9_pass_15 : decode cX9_pass 15 = .ok (.invokevirtual 232, 3) := by decide +kernel
theorem dX9_pass_18 : decode cX9_pass 18 = .ok (.aload_n 0, 1) := by decide +kernel
theorem dX9_pass_19 : decode cX9_pass 19 = .ok (.iconst 0, 1) := by decide +kernel
theorem dX9_pass_20 : decode cX9_pass 20 = .ok (.iload_n 1, 1) := by decide +kernel
theorem dX9_pass_21 : decode cX9_pass 21 = .ok (.invokevirtual 235, 3) := by decide +kernel
theorem dX9_pass_24 : decode cX9_pass 24 = .ok (.istore_n 2, 1) := by decide +kernel
theorem dX9_pass_25 : decode cX9_pass 25 = .ok (.iload_n 2, 1) := by decide +kernel
theorem dX9_pass_26 : decode cX9_pass 26 = .ok (.ifCond .ge 8, 3) := by decide +kernel
theorem dX9_pass_29 : decode cX9_pass 29 = .ok (.bipush (-2), 2) := by decide +kernel
theorem dX9_pass_31 : decode cX9_pass 31 = .ok (.goto 10, 3) := by decide +kernel
theorem dX9_pass_34 : decode cX9_pass 34 = .ok (.aload_n 0, 1) := by decide +kernel
theorem dX9_pass_35 : decode cX9_pass 35 = .ok (.getfield 46, 3) := by decide +kernel
theorem dX9_pass_38 : decode cX9_pass 38 = .ok (.bipush 34, 2) := by decide +kernel
theorem dX9_pass_40 : decode cX9_pass 40 = .ok (.iaload, 1) := by decide +kernel
theorem dX9_pass_41 : decode cX9_pass 41 = .ok (.ireturn, 1) := by decide +kernel
set_option maxRecDepth 20000 in
theorem ggX9_shared_X9_isOf : GoodIn wsX9_shared wsX9_isOf := goodIn_r _ [6, 7, 8, 14, 15, 16, 17, 18, 19, 20, 21, 22, 23, 24, 25, 26, 27, 28, 29, 30, 31, 32, 33, 34, 35, 36, 37, 38, 39, 40, 41, 42, 43, 44, 45, 46, 47, 48, 49, 50, 51] (by decide +kernel) (by decide +kernel)
set_option maxRecDepth 20000 in
theorem gX9_shared_X9_isOf : GoodIn wsX9_shared (wsV RX9 121 RX9 yX9_isOf wsX9_isOf) := goodIn_app (goodIn_of _ (by decide +kernel)) ggX9_shared_X9_isOf
set_option maxRecDepth 20000 in
theorem ggX9_shared_X9_shareOf : GoodIn wsX9_shared wsX9_shareOf := goodIn_r _ [12, 13, 7, 14, 15, 16, 17, 18, 19, 20, 21, 22, 23, 24, 25, 26, 27, 28, 29, 30, 31, 32, 33, 34, 35, 36, 37, 38, 39, 40, 41, 42, 43, 44, 45, 46, 47, 48, 49, 50, 51] (by decide +kernel) (by decide +kernel)
set_option maxRecDepth 20000 in
theorem gX9_shared_X9_shareOf : GoodIn wsX9_shared (wsV RX9 187 RX9 yX9_shareOf wsX9_shareOf) := goodIn_app (goodIn_of _ (by decide +kernel)) ggX9_shared_X9_shareOf
theorem dX9_shared_0 : decode cX9_shared 0 = .ok (.iconst 0, 1) := by decide +kernel
theorem dX9_shared_1 : decode cX9_shared 1 = .ok (.istore_n 3, 1) := by decide +kernel
theorem dX9_shared_2 : decode cX9_shared 2 = .ok (.iconst 0, 1) := by decide +kernel
theorem dX9_shared_3 : decode cX9_shared 3 = .ok (.istore 4, 2) := by decide +kernel
theorem dX9_shared_5 : decode cX9_shared 5 = .ok (.iload 4, 2) := by decide +kernel
theorem dX9_shared_7 : decode cX9_shared 7 = .ok (.aload_n 0, 1) := by decide +kernel
theorem dX9_shared_8 : decode cX9_shared 8 = .ok (.getfield 111, 3) := by decide +kernel
theorem dX9_shared_11 : decode cX9_shared 11 = .ok (.if_icmp .ge 34, 3) := by decide +kernel
theorem dX9_shared_14 : decode cX9_shared 14 = .ok (.iload_n 3, 1) := by decide +kernel
theorem dX9_shared_15 : decode cX9_shared 15 = .ok (.aload_n 0, 1) := by decide +kernel
theorem dX9_shared_16 : decode cX9_shared 16 = .ok (.iload_n 2, 1) := by decide +kernel
theorem dX9_shared_17 : decode cX9_shared 17 = .ok (.iload 4, 2) := by decide +kernel
theorem dX9_shared_19 : decode cX9_shared 19 = .ok (.invokevirtual 121, 3) := by decide +kernel
theorem dX9_shared_22 : decode cX9_shared 22 = .ok (.ifCond .eq 14, 3) := by decide +kernel
theorem dX9_shared_25 : decode cX9_shared 25 = .ok (.aload_n 0, 1) := by decide +kernel
theorem dX9_shared_26 : decode cX9_shared 26 = .ok (.iload_n 1, 1) := by decide +kernel
theorem dX9_shared_27 : decode cX9_shared 27 = .ok (.iload_n 2, 1) := by decide +kernel
theorem dX9_shared_28 : decode cX9_shared 28 = .ok (.iload 4, 2) := by decide +kernel
theorem dX9_shared_30 : decode cX9_shared 30 = .ok (.invokevirtual 187, 3) := by decide +kernel
theorem dX9_shared_33 : decode cX9_shared 33 = .ok (.goto 4, 3) := by decide +kernel
theorem dX9_shared_36 : decode cX9_shared 36 = .ok (.iconst 0, 1) := by decide +kernel
theorem dX9_shared_37 : decode cX9_shared 37 = .ok (.iadd, 1) := by decide +kernel
theorem dX9_shared_38 : decode cX9_shared 38 = .ok (.istore_n 3, 1) := by decide +kernel
theorem dX9_shared_39 : decode cX9_shared 39 = .ok (.iinc 4 1, 3) := by decide +kernel
theorem dX9_shared_42 : decode cX9_shared 42 = .ok (.goto (-37), 3) := by decide +kernel
theorem dX9_shared_45 : decode cX9_shared 45 = .ok (.iload_n 3, 1) := by decide +kernel
theorem dX9_shared_46 : decode cX9_shared 46 = .ok (.ireturn, 1) := by decide +kernel
set_option maxRecDepth 20000 in
theorem ggX9_share_X9_isFamily : GoodIn wsX9_share wsX9_isFamily := goodIn_r _ [7, 8, 9, 10, 6, 11, 45, 46, 47, 48, 49, 50, 51, 52, 53, 54, 55, 56, 57, 58, 59, 60, 61, 62, 63, 64, 65, 66, 67, 68, 69, 70, 71, 72, 73, 74, 75, 76, 77, 78, 79, 80, 81, 82] (by decide +kernel) (by decide +kernel)
set_option maxRecDepth 20000 in
theorem gX9_share_X9_isFamily : GoodIn wsX9_share (wsV RX9 204 RX9 yX9_isFamily wsX9_isFamily) := goodIn_app (goodIn_of _ (by decide +kernel)) ggX9_share_X9_isFamily
set_option maxRecDepth 20000 in
theorem ggX9_share_X9_isWall : GoodIn wsX9_share wsX9_isWall := goodIn_r _ [15, 16, 9, 10, 6, 11, 45, 46, 47, 48, 49, 50, 51, 52, 53, 54, 55, 56, 57, 58, 59, 60, 61, 62, 63, 64, 65, 66, 67, 68, 69, 70, 71, 72, 73, 74, 75, 76, 77, 78, 79, 80, 81, 82] (by decide +kernel) (by decide +kernel)
set_option maxRecDepth 20000 in
theorem gX9_share_X9_isWall : GoodIn wsX9_share (wsV RX9 212 RX9 yX9_isWall wsX9_isWall) := goodIn_app (goodIn_of _ (by decide +kernel)) ggX9_share_X9_isWall
set_option maxRecDepth 20000 in
theorem ggX9_share_X9_in : GoodIn wsX9_share wsX9_in := goodIn_r _ [11] (by decide +kernel) (by decide +kernel)
set_option maxRecDepth 20000 in
theorem gX9_share_X9_in : GoodIn wsX9_share (va_wsS RX9 117 yX9_in wsX9_in) := goodIn_app (goodIn_of _ (by decide +kernel)) ggX9_share_X9_in
set_option maxRecDepth 20000 in
theorem ggX9_share_X9_isOf : GoodIn wsX9_share wsX9_isOf := goodIn_r _ [20, 21, 22, 45, 46, 47, 48, 49, 50, 51, 52, 53, 54, 55, 56, 57, 58, 59, 60, 61, 62, 63, 64, 65, 66, 67, 68, 69, 70, 71, 72, 73, 74, 75, 76, 77, 78, 79, 80, 81, 82] (by decide +kernel) (by decide +kernel)
set_option maxRecDepth 20000 in
theorem gX9_share_X9_isOf : GoodIn wsX9_share (wsV RX9 121 RX9 yX9_isOf wsX9_isOf) := goodIn_app (goodIn_of _ (by decide +kernel)) ggX9_share_X9_isOf
set_option maxRecDepth 20000 in
theorem ggX9_share_X9_shared : GoodIn wsX9_share wsX9_shared := goodIn_r _ [26, 16, 17, 18, 19, 6, 20, 21, 22, 27, 28, 29, 30, 31, 45, 46, 47, 48, 49, 50, 51, 52, 53, 54, 55, 56, 57, 58, 59, 60, 61, 62, 63, 64, 65, 66, 67, 68, 69, 70, 71, 72, 73, 74, 75, 76, 77, 78, 79, 80, 81, 82] (by decide +kernel) (by decide +kernel)
set_option maxRecDepth 20000 in
theorem gX9_share_X9_shared : GoodIn wsX9_share (wsV RX9 240 RX9 yX9_shared wsX9_shared) := goodIn_app (goodIn_of _ (by decide +kernel)) ggX9_share_X9_shared
set_option maxRecDepth 20000 in
theorem ggX9_share_X9_shareOf : GoodIn wsX9_share wsX9_shareOf := goodIn_r _ [30, 31, 21, 45, 46, 47, 48, 49, 50, 51, 52, 53, 54, 55, 56, 57, 58, 59, 60, 61, 62, 63, 64, 65, 66, 67, 68, 69, 70, 71, 72, 73, 74, 75, 76, 77, 78, 79, 80, 81, 82] (by decide +kernel) (by decide +kernel)
set_option maxRecDepth 20000 in
theorem gX9_share_X9_shareOf : GoodIn wsX9_share (wsV RX9 187 RX9 yX9_shareOf wsX9_shareOf) := goodIn_app (goodIn_of _ (by decide +kernel)) ggX9_share_X9_shareOf
set_option maxRecDepth 20000 in
theorem ggX9_share_X9_known : GoodIn wsX9_share wsX9_known := goodIn_r _ [35, 36, 31, 37, 38, 39, 6, 40, 45, 46, 47, 48, 49, 50, 51, 52, 53, 54, 55, 56, 57, 58, 59, 60, 61, 62, 63, 64, 65, 66, 67, 68, 69, 70, 71, 72, 73, 74, 75, 76, 77, 78, 79, 80, 81, 82] (by decide +kernel) (by decide +kernel)
set_option maxRecDepth 20000 in
theorem gX9_share_X9_known : GoodIn wsX9_share (wsV RX9 232 RX9 yX9_known wsX9_known) := goodIn_app (goodIn_of _ (by decide +kernel)) ggX9_share_X9_known
set_option maxRecDepth 20000 in
theorem ggX9_share_X9_puts : GoodIn wsX9_share wsX9_puts := goodIn_r _ [44, 31, 21, 45, 46, 47, 48, 49, 50, 51, 52, 53, 54, 55, 56, 57, 58, 59, 60, 61, 62, 63, 64, 65, 66, 67, 68, 69, 70, 71, 72, 73, 74, 75, 76, 77, 78, 79, 80, 81, 82] (by decide +kernel) (by decide +kernel)
set_option maxRecDepth 20000 in
theorem gX9_share_X9_puts : GoodIn wsX9_share (wsV RX9 129 RX9 yX9_puts wsX9_puts) := goodIn_app (goodIn_of _ (by decide +kernel)) ggX9_share_X9_puts
theorem dX9_share_0 : decode cX9_share 0 = .ok (.aload_n 0, 1) := by decide +kernel
theorem dX9_share_1 : decode cX9_share 1 = .ok (.iload_n 1, 1) := by decide +kernel
theorem dX9_share_2 : decode cX9_share 2 = .ok (.invokevirtual 204, 3) := by decide +kernel
theorem dX9_share_5 : decode cX9_share 5 = .ok (.ifCond .eq 23, 3) := by decide +kernel
theorem dX9_share_8 : decode cX9_share 8 = .ok (.aload_n 0, 1) := by decide +kernel
theorem dX9_share_9 : decode cX9_share 9 = .ok (.iload_n 2, 1) := by decide +kernel
theorem dX9_share_10 : decode cX9_share 10 = .ok (.invokevirtual 212, 3) := by decide +kernel
theorem dX9_share_13 : decode cX9_share 13 = .ok (.ifCond .eq 15, 3) := by decide +kernel
theorem dX9_share_16 : decode cX9_share 16 = .ok (.iload_n 3, 1) := by decide +kernel
theorem dX9_share_17 : decode cX9_share 17 = .ok (.i2l, 1) := by decide +kernel
theorem dX9_share_18 : decode cX9_share 18 = .ok (.lconst 0, 1) := by decide +kernel
theorem dX9_share_19 : decode cX9_share 19 = .ok (.ldc2_w 238, 3) := by decide +kernel
theorem dX9_share_22 : decode cX9_share 22 = .ok (.invokestatic 117, 3) := by decide +kernel
theorem dX9_share_25 : decode cX9_share 25 = .ok (.ifCond .ne 5, 3) := by decide +kernel
theorem dX9_share_28 : decode cX9_share 28 = .ok (.iconst (-1), 1) := by decide +kernel
theorem dX9_share_29 : decode cX9_share 29 = .ok (.ireturn, 1) := by decide +kernel
theorem dX9_share_30 : decode cX9_share 30 = .ok (.aload_n 0, 1) := by decide +kernel
theorem dX9_share_31 : decode cX9_share 31 = .ok (.iload_n 1, 1) := by decide +kernel
theorem dX9_share_32 : decode cX9_share 32 = .ok (.iload_n 2, 1) := by decide +kernel
theorem dX9_share_33 : decode cX9_share 33 = .ok (.invokevirtual 121, 3) := by decide +kernel
theorem dX9_share_36 : decode cX9_share 36 = .ok (.ifCond .eq 28, 3) := by decide +kernel
theorem dX9_share_39 : decode cX9_share 39 = .ok (.aload_n 0, 1) := by decide +kernel
theorem dX9_share_40 : decode cX9_share 40 = .ok (.iconst 0, 1) := by decide +kernel
theorem dX9_share_41 : decode cX9_share 41 = .ok (.iload_n 1, 1) := by decide +kernel
theorem dX9_share_42 : decode cX9_share 42 = .ok (.invokevirtual 240, 3) := by decide +kernel
theorem dX9_share_45 : decode cX9_share 45 = .ok (.aload_n 0, 1) := by decide +kernel
theorem dX9_share_46 : decode cX9_share 46 = .ok (.iconst 0, 1) := by decide +kernel
theorem dX9_share_47 : decode cX9_share 47 = .ok (.iload_n 1, 1) := by decide +kernel
theorem dX9_share_48 : decode cX9_share 48 = .ok (.iload_n 2, 1) := by decide +kernel
theorem dX9_share_49 : decode cX9_share 49 = .ok (.invokevirtual 187, 3) := by decide +kernel
theorem dX9_share_52 : decode cX9_share 52 = .ok (.isub, 1) := by decide +kernel
theorem dX9_share_53 : decode cX9_share 53 = .ok (.iload_n 3, 1) := by decide +kernel
theorem dX9_share_54 : decode cX9_share 54 = .ok (.iadd, 1) := by decide +kernel
theorem dX9_share_55 : decode cX9_share 55 = .ok (.aload_n 0, 1) := by decide +kernel
theorem dX9_share_56 : decode cX9_share 56 = .ok (.getfield 13, 3) := by decide +kernel
theorem dX9_share_59 : decode cX9_share 59 = .ok (.iload_n 1, 1) := by decide +kernel
theorem dX9_share_60 : decode cX9_share 60 = .ok (.iaload, 1) := by decide +kernel
theorem dX9_share_61 : decode cX9_share 61 = .ok (.if_icmp .le 6, 3) := by decide +kernel
theorem dX9_share_64 : decode cX9_share 64 = .ok (.bipush (-2), 2) := by decide +kernel
theorem dX9_share_66 : decode cX9_share 66 = .ok (.ireturn, 1) := by decide +kernel
theorem dX9_share_67 : decode cX9_share 67 = .ok (.aload_n 0, 1) := by decide +kernel
theorem dX9_share_68 : decode cX9_share 68 = .ok (.invokevirtual 232, 3) := by decide +kernel
theorem dX9_share_71 : decode cX9_share 71 = .ok (.aload_n 0, 1) := by decide +kernel
theorem dX9_share_72 : decode cX9_share 72 = .ok (.iconst 0, 1) := by decide +kernel
theorem dX9_share_73 : decode cX9_share 73 = .ok (.iload_n 1, 1) := by decide +kernel
theorem dX9_share_74 : decode cX9_share 74 = .ok (.iload_n 2, 1) := by decide +kernel
theorem dX9_share_75 : decode cX9_share 75 = .ok (.iload_n 3, 1) := by decide +kernel
theorem dX9_share_76 : decode cX9_share 76 = .ok (.invokevirtual 129, 3) := by decide +kernel
theorem dX9_share_79 : decode cX9_share 79 = .ok (.aload_n 0, 1) := by decide +kernel
theorem dX9_share_80 : decode cX9_share 80 = .ok (.getfield 13, 3) := by decide +kernel
theorem dX9_share_83 : decode cX9_share 83 = .ok (.iload_n 1, 1) := by decide +kernel
theorem dX9_share_84 : decode cX9_share 84 = .ok (.iaload, 1) := by decide +kernel
theorem dX9_share_85 : decode cX9_share 85 = .ok (.aload_n 0, 1) := by decide +kernel
theorem dX9_share_86 : decode cX9_share 86 = .ok (.iconst 0, 1) := by decide +kernel
theorem dX9_share_87 : decode cX9_share 87 = .ok (.iload_n 1, 1) := by decide +kernel
theorem dX9_share_88 : decode cX9_share 88 = .ok (.invokevirtual 240, 3) := by decide +kernel
theorem dX9_share_91 : decode cX9_share 91 = .ok (.isub, 1) := by decide +kernel
theorem dX9_share_92 : decode cX9_share 92 = .ok (.ireturn, 1) := by decide +kernel
set_option maxRecDepth 20000 in
theorem ggX9_sick_X9_isFamily : GoodIn wsX9_sick wsX9_isFamily := goodIn_r _ [6, 7, 8, 9, 5, 10, 20, 21, 22, 23, 24, 25, 26, 27, 28, 29, 30, 31, 32, 33, 34, 35, 36, 37, 38, 39, 40, 41, 42, 43, 44, 45, 46, 47, 48, 49, 50, 51, 52, 53, 54, 55, 56, 57] (by decide +kernel) (by decide +kernel)
set_option maxRecDepth 20000 in
theorem gX9_sick_X9_isFamily : GoodIn wsX9_sick (wsV RX9 204 RX9 yX9_isFamily wsX9_isFamily) := goodIn_app (goodIn_of _ (by decide +kernel)) ggX9_sick_X9_isFamily
set_option maxRecDepth 20000 in
theorem ggX9_sick_X9_known : GoodIn wsX9_sick wsX9_known := goodIn_r _ [14, 15, 1, 16, 17, 18, 5, 19, 20, 21, 22, 23, 24, 25, 26, 27, 28, 29, 30, 31, 32, 33, 34, 35, 36, 37, 38, 39, 40, 41, 42, 43, 44, 45, 46, 47, 48, 49, 50, 51, 52, 53, 54, 55, 56, 57] (by decide +kernel) (by decide +kernel)
set_option maxRecDepth 20000 in
theorem gX9_sick_X9_known : GoodIn wsX9_sick (wsV RX9 232 RX9 yX9_known wsX9_known) := goodIn_app (goodIn_of _ (by decide +kernel)) ggX9_sick_X9_known
theorem dX9_sick_0 : decode cX9_sick 0 = .ok (.aload_n 0, 1) := by decide +kernel
theorem dX9_sick_1 : decode cX9_sick 1 = .ok (.iload_n 1, 1) := by decide +kernel
theorem dX9_sick_2 : decode cX9_sick 2 = .ok (.invokevirtual 204, 3) := by decide +kernel
theorem dX9_sick_5 : decode cX9_sick 5 = .ok (.ifCond .ne 5, 3) := by decide +kernel
theorem dX9_sick_8 : decode cX9_sick 8 = .ok (.iconst (-1), 1) := by decide +kernel
theorem dX9_sick_9 : decode cX9_sick 9 = .ok (.ireturn, 1) := by decide +kernel
theorem dX9_sick_10 : decode cX9_sick 10 = .ok (.aload_n 0, 1) := by decide +kernel
theorem dX9_sick_11 : decode cX9_sick 11 = .ok (.invokevirtual 232, 3) := by decide +kernel
theorem dX9_sick_14 : decode cX9_sick 14 = .ok (.aload_n 0, 1) := by decide +kernel
theorem dX9_sick_15 : decode cX9_sick 15 = .ok (.getfield 46, 3) := by decide +kernel
theorem dX9_sick_18 : decode cX9_sick 18 = .ok (.bipush 33, 2) := by decide +kernel
theorem dX9_sick_20 : decode cX9_sick 20 = .ok (.dup2, 1) := by decide +kernel
theorem dX9_sick_21 : decode cX9_sick 21 = .ok (.iaload, 1) := by decide +kernel
theorem dX9_sick_22 : decode cX9_sick 22 = .ok (.iconst 1, 1) := by decide +kernel
theorem dX9_sick_23 : decode cX9_sick 23 = .ok (.iload_n 1, 1) := by decide +kernel
theorem dX9_sick_24 : decode cX9_sick 24 = .ok (.ishl, 1) := by decide +kernel
theorem dX9_sick_25 : decode cX9_sick 25 = .ok (.ixor, 1) := by decide +kernel
theorem dX9_sick_26 : decode cX9_sick 26 = .ok (.iastore, 1) := by decide +kernel
theorem dX9_sick_27 : decode cX9_sick 27 = .ok (.aload_n 0, 1) := by decide +kernel
theorem dX9_sick_28 : decode cX9_sick 28 = .ok (.getfield 46, 3) := by decide +kernel
theorem dX9_sick_31 : decode cX9_sick 31 = .ok (.bipush 33, 2) := by decide +kernel
theorem dX9_sick_33 : decode cX9_sick 33 = .ok (.iaload, 1) := by decide +kernel
theorem dX9_sick_34 : decode cX9_sick 34 = .ok (.iload_n 1, 1) := by decide +kernel
theorem dX9_sick_35 : decode cX9_sick 35 = .ok (.ishr, 1) := by decide +kernel
theorem dX9_sick_36 : decode cX9_sick 36 = .ok (.iconst 1, 1) := by decide +kernel
theorem dX9_sick_37 : decode cX9_sick 37 = .ok (.iand, 1) := by decide +kernel
theorem dX9_sick_38 : decode cX9_sick 38 = .ok (.ireturn, 1) := by decide +kernel
set_option maxRecDepth 20000 in
theorem ggX9_undo_X9_copies : GoodIn wsX9_undo wsX9_copies := goodIn_r _ [6, 7, 8, 9, 10, 11, 12, 13, 14, 15, 16, 17, 18, 19, 20, 21, 22, 23, 24, 25, 26, 27, 28, 29, 30, 31, 32, 33, 34, 35, 36, 37, 38, 39, 40, 41, 42, 43, 44, 45] (by decide +kernel) (by decide +kernel)
set_option maxRecDepth 20000 in
theorem gX9_undo_X9_copies : GoodIn wsX9_undo (wsV RX9 175 RX9 yX9_copies wsX9_copies) := goodIn_app (goodIn_of _ (by decide +kernel)) ggX9_undo_X9_copies
theorem dX9_undo_0 : decode cX9_undo 0 = .ok (.aload_n 0, 1) := by decide +kernel
theorem dX9_undo_1 : decode cX9_undo 1 = .ok (.getfield 178, 3) := by decide +kernel
theorem dX9_undo_4 : decode cX9_undo 4 = .ok (.ifCond .ne 6, 3) := by decide +kernel
theorem dX9_undo_7 : decode cX9_undo 7 = .ok (.bipush (-2), 2) := by decide +kernel
theorem dX9_undo_9 : decode cX9_undo 9 = .ok (.ireturn, 1) := by decide +kernel
theorem dX9_undo_10 : decode cX9_undo 10 = .ok (.aload_n 0, 1) := by decide +kernel
theorem dX9_undo_11 : decode cX9_undo 11 = .ok (.aload_n 0, 1) := by decide +kernel
theorem dX9_undo_12 : decode cX9_undo 12 = .ok (.getfield 178, 3) := by decide +kernel
theorem dX9_undo_15 : decode cX9_undo 15 = .ok (.bipush 35, 2) := by decide +kernel
theorem dX9_undo_17 : decode cX9_undo 17 = .ok (.imul, 1) := by decide +kernel
theorem dX9_undo_18 : decode cX9_undo 18 = .ok (.iconst 0, 1) := by decide +kernel
theorem dX9_undo_19 : decode cX9_undo 19 = .ok (.invokevirtual 175, 3) := by decide +kernel
theorem dX9_undo_22 : decode cX9_undo 22 = .ok (.aload_n 0, 1) := by decide +kernel
theorem dX9_undo_23 : decode cX9_undo 23 = .ok (.dup, 1) := by decide +kernel
theorem dX9_undo_24 : decode cX9_undo 24 = .ok (.getfield 178, 3) := by decide +kernel
theorem dX9_undo_27 : decode cX9_undo 27 = .ok (.iconst 1, 1) := by decide +kernel
theorem dX9_undo_28 : decode cX9_undo 28 = .ok (.isub, 1) := by decide +kernel
theorem dX9_undo_29 : decode cX9_undo 29 = .ok (.putfield 178, 3) := by decide +kernel
theorem dX9_undo_32 : decode cX9_undo 32 = .ok (.aload_n 0, 1) := by decide +kernel
theorem dX9_undo_33 : decode cX9_undo 33 = .ok (.getfield 178, 3) := by decide +kernel
theorem dX9_undo_36 : decode cX9_undo 36 = .ok (.ireturn, 1) := by decide +kernel
set_option maxRecDepth 20000 in
theorem ggX9_behind_X9_in : GoodIn wsX9_behind wsX9_in := goodIn_r _ [10] (by decide +kernel) (by decide +kernel)
set_option maxRecDepth 20000 in
theorem gX9_behind_X9_in : GoodIn wsX9_behind (va_wsS RX9 117 yX9_in wsX9_in) := goodIn_app (goodIn_of _ (by decide +kernel)) ggX9_behind_X9_in
set_option maxRecDepth 20000 in
theorem ggX9_behind_X9_copies : GoodIn wsX9_behind wsX9_copies := goodIn_r _ [14, 6, 57, 58, 59, 60, 61, 62, 63, 64, 65, 66, 67, 68, 69, 70, 71, 72, 73, 74, 75, 76, 77, 78, 79, 80, 81, 82, 83, 84, 85, 86, 87, 88, 89, 90, 91, 92, 93, 94] (by decide +kernel) (by decide +kernel)
set_option maxRecDepth 20000 in
theorem gX9_behind_X9_copies : GoodIn wsX9_behind (wsV RX9 175 RX9 yX9_copies wsX9_copies) := goodIn_app (goodIn_of _ (by decide +kernel)) ggX9_behind_X9_copies
set_option maxRecDepth 20000 in
theorem ggX9_behind_X9_passesBy : GoodIn wsX9_behind wsX9_passesBy := goodIn_r _ [18, 19, 20, 21, 9, 22, 4, 23, 24, 25, 26, 27, 6, 28, 29, 30, 31, 32, 33, 34, 35, 36, 37, 38, 39, 40, 41, 42, 43, 44, 45, 46, 47, 48, 49, 50, 57, 58, 59, 60, 61, 62, 63, 64, 65, 66, 67, 68, 69, 70, 71, 72, 73, 74, 75, 76, 77, 78, 79, 80, 81, 82, 83, 84, 85, 86, 87, 88, 89, 90, 91, 92, 93, 94] (by decide +kernel) (by decide +kernel)
set_option maxRecDepth 20000 in
theorem gX9_behind_X9_passesBy : GoodIn wsX9_behind (wsV RX9 235 RX9 yX9_passesBy wsX9_passesBy) := goodIn_app (goodIn_of _ (by decide +kernel)) ggX9_behind_X9_passesBy
set_option maxRecDepth 20000 in
theorem ggX9_behind_X9_whose : GoodIn wsX9_behind wsX9_whose := goodIn_r _ [54, 6, 55, 56, 25, 27, 57, 58, 59, 60, 61, 62, 63, 64, 65, 66, 67, 68, 69, 70, 71, 72, 73, 74, 75, 76, 77, 78, 79, 80, 81, 82, 83, 84, 85, 86, 87, 88, 89, 90, 91, 92, 93, 94] (by decide +kernel) (by decide +kernel)
set_option maxRecDepth 20000 in
theorem gX9_behind_X9_whose : GoodIn wsX9_behind (wsV RX9 201 RX9 yX9_whose wsX9_whose) := goodIn_app (goodIn_of _ (by decide +kernel)) ggX9_behind_X9_whose
theorem dX9_behind_0 : decode cX9_behind 0 = .ok (.iload_n 1, 1) := by decide +kernel
theorem dX9_behind_1 : decode cX9_behind 1 = .ok (.i2l, 1) := by decide +kernel
theorem dX9_behind_2 : decode cX9_behind 2 = .ok (.lconst 0, 1) := by decide +kernel
theorem dX9_behind_3 : decode cX9_behind 3 = .ok (.ldc2_w 243, 3) := by decide +kernel
theorem dX9_behind_6 : decode cX9_behind 6 = .ok (.invokestatic 117, 3) := by decide +kernel
theorem dX9_behind_9 : decode cX9_behind 9 = .ok (.ifCond .eq 54, 3) := by decide +kernel
theorem dX9_behind_12 : decode cX9_behind 12 = .ok (.iload_n 3, 1) := by decide +kernel
theorem dX9_behind_13 : decode cX9_behind 13 = .ok (.i2l, 1) := by decide +kernel
theorem dX9_behind_14 : decode cX9_behind 14 = .ok (.lconst 0, 1) := by decide +kernel
theorem dX9_behind_15 : decode cX9_behind 15 = .ok (.ldc2_w 245, 3) := by decide +kernel
theorem dX9_behind_18 : decode cX9_behind 18 = .ok (.invokestatic 117, 3) := by decide +kernel
theorem dX9_behind_21 : decode cX9_behind 21 = .ok (.ifCond .eq 42, 3) := by decide +kernel
theorem dX9_behind_24 : decode cX9_behind 24 = .ok (.iload_n 2, 1) := by decide +kernel
theorem dX9_behind_25 : decode cX9_behind 25 = .ok (.i2l, 1) := by decide +kernel
theorem dX9_behind_26 : decode cX9_behind 26 = .ok (.lconst 0, 1) := by decide +kernel
theorem dX9_behind_27 : decode cX9_behind 27 = .ok (.iload_n 3, 1) := by decide +kernel
theorem dX9_behind_28 : decode cX9_behind 28 = .ok (.ifCond .ne 10, 3) := by decide +kernel
theorem dX9_behind_31 : decode cX9_behind 31 = .ok (.aload_n 0, 1) := by decide +kernel
theorem dX9_behind_32 : decode cX9_behind 32 = .ok (.getfield 94, 3) := by decide +kernel
theorem dX9_behind_35 : decode cX9_behind 35 = .ok (.goto 19, 3) := by decide +kernel
theorem dX9_behind_38 : decode cX9_behind 38 = .ok (.iload_n 3, 1) := by decide +kernel
theorem dX9_behind_39 : decode cX9_behind 39 = .ok (.iconst 1, 1) := by decide +kernel
theorem dX9_behind_40 : decode cX9_behind 40 = .ok (.if_icmp .ne 10, 3) := by decide +kernel
theorem dX9_behind_43 : decode cX9_behind 43 = .ok (.aload_n 0, 1) := by decide +kernel
theorem dX9_behind_44 : decode cX9_behind 44 = .ok (.getfield 111, 3) := by decide +kernel
theorem dX9_behind_47 : decode cX9_behind 47 = .ok (.goto 7, 3) := by decide +kernel
theorem dX9_behind_50 : decode cX9_behind 50 = .ok (.aload_n 0, 1) := by decide +kernel
theorem dX9_behind_51 : decode cX9_behind 51 = .ok (.getfield 114, 3) := by decide +kernel
theorem dX9_behind_54 : decode cX9_behind 54 = .ok (.iconst 1, 1) := by decide +kernel
theorem dX9_behind_55 : decode cX9_behind 55 = .ok (.isub, 1) := by decide +kernel
theorem dX9_behind_56 : decode cX9_behind 56 = .ok (.i2l, 1) := by decide +kernel
theorem dX9_behind_57 : decode cX9_behind 57 = .ok (.invokestatic 117, 3) := by decide +kernel
theorem dX9_behind_60 : decode cX9_behind 60 = .ok (.ifCond .ne 5, 3) := by decide +kernel
theorem dX9_behind_63 : decode cX9_behind 63 = .ok (.iconst (-1), 1) := by decide +kernel
theorem dX9_behind_64 : decode cX9_behind 64 = .ok (.ireturn, 1) := by decide +kernel
theorem dX9_behind_65 : decode cX9_behind 65 = .ok (.aload_n 0, 1) := by decide +kernel
theorem dX9_behind_66 : decode cX9_behind 66 = .ok (.iconst 0, 1) := by decide +kernel
theorem dX9_behind_67 : decode cX9_behind 67 = .ok (.sipush 385, 3) := by decide +kernel
theorem dX9_behind_70 : decode cX9_behind 70 = .ok (.invokevirtual 175, 3) := by decide +kernel
theorem dX9_behind_73 : decode cX9_behind 73 = .ok (.aload_n 0, 1) := by decide +kernel
theorem dX9_behind_74 : decode cX9_behind 74 = .ok (.sipush 385, 3) := by decide +kernel
theorem dX9_behind_77 : decode cX9_behind 77 = .ok (.iload_n 1, 1) := by decide +kernel
theorem dX9_behind_78 : decode cX9_behind 78 = .ok (.invokevirtual 235, 3) := by decide +kernel
theorem dX9_behind_81 : decode cX9_behind 81 = .ok (.istore 4, 2) := by decide +kernel
theorem dX9_behind_83 : decode cX9_behind 83 = .ok (.iload 4, 2) := by decide +kernel
theorem dX9_behind_85 : decode cX9_behind 85 = .ok (.ifCond .ge 8, 3) := by decide +kernel
theorem dX9_behind_88 : decode cX9_behind 88 = .ok (.bipush (-2), 2) := by decide +kernel
theorem dX9_behind_90 : decode cX9_behind 90 = .ok (.goto 49, 3) := by decide +kernel
theorem dX9_behind_93 : decode cX9_behind 93 = .ok (.iload_n 3, 1) := by decide +kernel
theorem dX9_behind_94 : decode cX9_behind 94 = .ok (.ifCond .ne 16, 3) := by decide +kernel
theorem dX9_behind_97 : decode cX9_behind 97 = .ok (.aload_n 0, 1) := by decide +kernel
theorem dX9_behind_98 : decode cX9_behind 98 = .ok (.getfield 46, 3) := by decide +kernel
theorem dX9_behind_101 : decode cX9_behind 101 = .ok (.sipush 385, 3) := by decide +kernel
theorem dX9_behind_104 : decode cX9_behind 104 = .ok (.iload_n 2, 1) := by decide +kernel
theorem dX9_behind_105 : decode cX9_behind 105 = .ok (.iadd, 1) := by decide +kernel
theorem dX9_behind_106 : decode cX9_behind 106 = .ok (.iaload, 1) := by decide +kernel
theorem dX9_behind_107 : decode cX9_behind 107 = .ok (.goto 32, 3) := by decide +kernel
theorem dX9_behind_110 : decode cX9_behind 110 = .ok (.iload_n 3, 1) := by decide +kernel
theorem dX9_behind_111 : decode cX9_behind 111 = .ok (.iconst 1, 1) := by decide +kernel
theorem dX9_behind_112 : decode cX9_behind 112 = .ok (.if_icmp .ne 19, 3) := by decide +kernel
theorem dX9_behind_115 : decode cX9_behind 115 = .ok (.aload_n 0, 1) := by decide +kernel
theorem dX9_behind_116 : decode cX9_behind 116 = .ok (.getfield 46, 3) := by decide +kernel
theorem dX9_behind_119 : decode cX9_behind 119 = .ok (.sipush 391, 3) := by decide +kernel
theorem dX9_behind_122 : decode cX9_behind 122 = .ok (.iload_n 2, 1) := by decide +kernel
theorem dX9_behind_123 : decode cX9_behind 123 = .ok (.iadd, 1) := by decide +kernel
theorem dX9_behind_124 : decode cX9_behind 124 = .ok (.iaload, 1) := by decide +kernel
theorem dX9_behind_125 : decode cX9_behind 125 = .ok (.bipush 100, 2) := by decide +kernel
theorem dX9_behind_127 : decode cX9_behind 127 = .ok (.iadd, 1) := by decide +kernel
theorem dX9_behind_128 : decode cX9_behind 128 = .ok (.goto 11, 3) := by decide +kernel
theorem dX9_behind_131 : decode cX9_behind 131 = .ok (.aload_n 0, 1) := by decide +kernel
theorem dX9_behind_132 : decode cX9_behind 132 = .ok (.sipush 385, 3) := by decide +kernel
theorem dX9_behind_135 : decode cX9_behind 135 = .ok (.iload_n 2, 1) := by decide +kernel
theorem dX9_behind_136 : decode cX9_behind 136 = .ok (.invokevirtual 201, 3) := by decide +kernel
theorem dX9_behind_139 : decode cX9_behind 139 = .ok (.ireturn, 1) := by decide +kernel
set_option maxRecDepth 20000 in
theorem ggX9_gone_X9_in : GoodIn wsX9_gone wsX9_in := goodIn_r _ [6] (by decide +kernel) (by decide +kernel)
set_option maxRecDepth 20000 in
theorem gX9_gone_X9_in : GoodIn wsX9_gone (va_wsS RX9 117 yX9_in wsX9_in) := goodIn_app (goodIn_of _ (by decide +kernel)) ggX9_gone_X9_in
set_option maxRecDepth 20000 in
theorem ggX9_gone_X9_copies : GoodIn wsX9_gone wsX9_copies := goodIn_r _ [10, 2, 44, 45, 46, 47, 48, 49, 50, 51, 52, 53, 54, 55, 56, 57, 58, 59, 60, 61, 62, 63, 64, 65, 66, 67, 68, 69, 70, 71, 72, 73, 74, 75, 76, 77, 78, 79, 80, 81] (by decide +kernel) (by decide +kernel)
set_option maxRecDepth 20000 in
theorem gX9_gone_X9_copies : GoodIn wsX9_gone (wsV RX9 175 RX9 yX9_copies wsX9_copies) := goodIn_app (goodIn_of _ (by decide +kernel)) ggX9_gone_X9_copies
set_option maxRecDepth 20000 in
theorem ggX9_gone_X9_passes : GoodIn wsX9_gone wsX9_passes := goodIn_r _ [14, 15, 16, 17, 18, 19, 20, 2, 21, 22, 5, 23, 24, 25, 26, 27, 28, 29, 30, 31, 32, 33, 34, 35, 36, 37, 38, 39, 40, 41, 42, 43, 44, 45, 46, 47, 48, 49, 50, 51, 52, 53, 54, 55, 56, 57, 58, 59, 60, 61, 62, 63, 64, 65, 66, 67, 68, 69, 70, 71, 72, 73, 74, 75, 76, 77, 78, 79, 80, 81] (by decide +kernel) (by decide +kernel)
set_option maxRecDepth 20000 in
theorem gX9_gone_X9_passes : GoodIn wsX9_gone (wsV RX9 227 RX9 yX9_passes wsX9_passes) := goodIn_app (goodIn_of _ (by decide +kernel)) ggX9_gone_X9_passes
theorem dX9_gone_0 : decode cX9_gone 0 = .ok (.iload_n 1, 1) := by decide +kernel
theorem dX9_gone_1 : decode cX9_gone 1 = .ok (.i2l, 1) := by decide +kernel
theorem dX9_gone_2 : decode cX9_gone 2 = .ok (.lconst 0, 1) := by decide +kernel
theorem dX9_gone_3 : decode cX9_gone 3 = .ok (.lconst 1, 1) := by decide +kernel
theorem dX9_gone_4 : decode cX9_gone 4 = .ok (.invokestatic 117, 3) := by decide +kernel
theorem dX9_gone_7 : decode cX9_gone 7 = .ok (.ifCond .ne 5, 3) := by decide +kernel
theorem dX9_gone_10 : decode cX9_gone 10 = .ok (.iconst (-1), 1) := by decide +kernel
theorem dX9_gone_11 : decode cX9_gone 11 = .ok (.ireturn, 1) := by decide +kernel
theorem dX9_gone_12 : decode cX9_gone 12 = .ok (.aload_n 0, 1) := by decide +kernel
theorem dX9_gone_13 : decode cX9_gone 13 = .ok (.iconst 0, 1) := by decide +kernel
theorem dX9_gone_14 : decode cX9_gone 14 = .ok (.sipush 385, 3) := by decide +kernel
theorem dX9_gone_17 : decode cX9_gone 17 = .ok (.invokevirtual 175, 3) := by decide +kernel
theorem dX9_gone_20 : decode cX9_gone 20 = .ok (.iconst 0, 1) := by decide +kernel
theorem dX9_gone_21 : decode cX9_gone 21 = .ok (.istore_n 2, 1) := by decide +kernel
theorem dX9_gone_22 : decode cX9_gone 22 = .ok (.iconst 1, 1) := by decide +kernel
theorem dX9_gone_23 : decode cX9_gone 23 = .ok (.istore_n 3, 1) := by decide +kernel
theorem dX9_gone_24 : decode cX9_gone 24 = .ok (.iload_n 3, 1) := by decide +kernel
theorem dX9_gone_25 : decode cX9_gone 25 = .ok (.bipush 60, 2) := by decide +kernel
theorem dX9_gone_27 : decode cX9_gone 27 = .ok (.if_icmp .gt 81, 3) := by decide +kernel
theorem dX9_gone_30 : decode cX9_gone 30 = .ok (.iload_n 2, 1) := by decide +kernel
theorem dX9_gone_31 : decode cX9_gone 31 = .ok (.aload_n 0, 1) := by decide +kernel
theorem dX9_gone_32 : decode cX9_gone 32 = .ok (.sipush 385, 3) := by decide +kernel
theorem dX9_gone_35 : decode cX9_gone 35 = .ok (.invokevirtual 227, 3) := by decide +kernel
theorem dX9_gone_38 : decode cX9_gone 38 = .ok (.iadd, 1) := by decide +kernel
theorem dX9_gone_39 : decode cX9_gone 39 = .ok (.istore_n 2, 1) := by decide +kernel
theorem dX9_gone_40 : decode cX9_gone 40 = .ok (.iconst 0, 1) := by decide +kernel
theorem dX9_gone_41 : decode cX9_gone 41 = .ok (.istore 4, 2) := by decide +kernel
theorem dX9_gone_43 : decode cX9_gone 43 = .ok (.iload 4, 2) := by decide +kernel
theorem dX9_gone_45 : decode cX9_gone 45 = .ok (.aload_n 0, 1) := by decide +kernel
theorem dX9_gone_46 : decode cX9_gone 46 = .ok (.getfield 94, 3) := by decide +kernel
theorem dX9_gone_49 : decode cX9_gone 49 = .ok (.if_icmp .ge 53, 3) := by decide +kernel
theorem dX9_gone_52 : decode cX9_gone 52 = .ok (.aload_n 0, 1) := by decide +kernel
theorem dX9_gone_53 : decode cX9_gone 53 = .ok (.getfield 46, 3) := by decide +kernel
theorem dX9_gone_56 : decode cX9_gone 56 = .ok (.iload 4, 2) := by decide +kernel
theorem dX9_gone_58 : decode cX9_gone 58 = .ok (.iaload, 1) := by decide +kernel
theorem dX9_gone_59 : decode cX9_gone 59 = .ok (.ifCond .le 37, 3) := by decide +kernel
theorem dX9_gone_62 : decode cX9_gone 62 = .ok (.aload_n 0, 1) := by decide +kernel
theorem dX9_gone_63 : decode cX9_gone 63 = .ok (.getfield 46, 3) := by decide +kernel
theorem dX9_gone_66 : decode cX9_gone 66 = .ok (.sipush 385, 3) := by decide +kernel
theorem dX9_gone_69 : decode cX9_gone 69 = .ok (.iload 4, 2) := by decide +kernel
theorem dX9_gone_71 : decode cX9_gone 71 = .ok (.iadd, 1) := by decide +kernel
theorem dX9_gone_72 : decode cX9_gone 72 = .ok (.iaload, 1) := by decide +kernel
theorem dX9_gone_73 : decode cX9_gone 73 = .ok (.ifCond .ne 23, 3) := by decide +kernel
theorem dX9_gone_76 : decode cX9_gone 76 = .ok (.iload_n 2, 1) := by decide +kernel
theorem dX9_gone_77 : decode cX9_gone 77 = .ok (.ifCond .ge 8, 3) := by decide +kernel
theorem dX9_gone_80 : decode cX9_gone 80 = .ok (.bipush (-2), 2) := by decide +kernel
theorem dX9_gone_82 : decode cX9_gone 82 = .ok (.goto 13, 3) := by decide +kernel
theorem dX9_gone_85 : decode cX9_gone 85 = .ok (.iload_n 1, 1) := by decide +kernel
theorem dX9_gone_86 : decode cX9_gone 86 = .ok (.ifCond .ne 8, 3) := by decide +kernel
theorem dX9_gone_89 : decode cX9_gone 89 = .ok (.iload 4, 2) := by decide +kernel
theorem dX9_gone_91 : decode cX9_gone 91 = .ok (.goto 4, 3) := by decide +kernel
theorem dX9_gone_94 : decode cX9_gone 94 = .ok (.iload_n 3, 1) := by decide +kernel
theorem dX9_gone_95 : decode cX9_gone 95 = .ok (.ireturn, 1) := by decide +kernel
theorem dX9_gone_96 : decode cX9_gone 96 = .ok (.iinc 4 1, 3) := by decide +kernel
theorem dX9_gone_99 : decode cX9_gone 99 = .ok (.goto (-56), 3) := by decide +kernel
theorem dX9_gone_102 : decode cX9_gone 102 = .ok (.iinc 3 1, 3) := by decide +kernel
theorem dX9_gone_105 : decode cX9_gone 105 = .ok (.goto (-81), 3) := by decide +kernel
theorem dX9_gone_108 : decode cX9_gone 108 = .ok (.bipush (-4), 2) := by decide +kernel
theorem dX9_gone_110 : decode cX9_gone 110 = .ok (.ireturn, 1) := by decide +kernel
set_option maxRecDepth 20000 in
theorem ggX9_lists_X9_isOf : GoodIn wsX9_lists wsX9_isOf := goodIn_r _ [8, 9, 10, 11, 12, 13, 14, 15, 16, 17, 18, 19, 20, 21, 22, 23, 24, 25, 26, 27, 28, 29, 30, 31, 32, 33, 34, 35, 36, 37, 38, 39, 40, 41, 42, 43, 44, 45, 46, 47, 48] (by decide +kernel) (by decide +kernel)
set_option maxRecDepth 20000 in
theorem gX9_lists_X9_isOf : GoodIn wsX9_lists (wsV RX9 121 RX9 yX9_isOf wsX9_isOf) := goodIn_app (goodIn_of _ (by decide +kernel)) ggX9_lists_X9_isOf
theorem dX9_lists_0 : decode cX9_lists 0 = .ok (.aload_n 0, 1) := by decide +kernel
theorem dX9_lists_1 : decode cX9_lists 1 = .ok (.iconst 0, 1) := by decide +kernel
theorem dX9_lists_2 : decode cX9_lists 2 = .ok (.putfield 247, 3) := by decide +kernel
theorem dX9_lists_5 : decode cX9_lists 5 = .ok (.iconst 0, 1) := by decide +kernel
theorem dX9_lists_6 : decode cX9_lists 6 = .ok (.istore_n 2, 1) := by decide +kernel
theorem dX9_lists_7 : decode cX9_lists 7 = .ok (.iload_n 2, 1) := by decide +kernel
theorem dX9_lists_8 : decode cX9_lists 8 = .ok (.aload_n 0, 1) := by decide +kernel
theorem dX9_lists_9 : decode cX9_lists 9 = .ok (.getfield 111, 3) := by decide +kernel
theorem dX9_lists_12 : decode cX9_lists 12 = .ok (.if_icmp .ge 38, 3) := by decide +kernel
theorem dX9_lists_15 : decode cX9_lists 15 = .ok (.aload_n 0, 1) := by decide +kernel
theorem dX9_lists_16 : decode cX9_lists 16 = .ok (.iload_n 1, 1) := by decide +kernel
theorem dX9_lists_17 : decode cX9_lists 17 = .ok (.iload_n 2, 1) := by decide +kernel
theorem dX9_lists_18 : decode cX9_lists 18 = .ok (.invokevirtual 121, 3) := by decide +kernel
theorem dX9_lists_21 : decode cX9_lists 21 = .ok (.ifCond .eq 23, 3) := by decide +kernel
theorem dX9_lists_24 : decode cX9_lists 24 = .ok (.aload_n 0, 1) := by decide +kernel
theorem dX9_lists_25 : decode cX9_lists 25 = .ok (.getfield 68, 3) := by decide +kernel
theorem dX9_lists_28 : decode cX9_lists 28 = .ok (.aload_n 0, 1) := by decide +kernel
theorem dX9_lists_29 : decode cX9_lists 29 = .ok (.getfield 247, 3) := by decide +kernel
theorem dX9_lists_32 : decode cX9_lists 32 = .ok (.iload_n 2, 1) := by decide +kernel
theorem dX9_lists_33 : decode cX9_lists 33 = .ok (.iastore, 1) := by decide +kernel
theorem dX9_lists_34 : decode cX9_lists 34 = .ok (.aload_n 0, 1) := by decide +kernel
theorem dX9_lists_35 : decode cX9_lists 35 = .ok (.dup, 1) := by decide +kernel
theorem dX9_lists_36 : decode cX9_lists 36 = .ok (.getfield 247, 3) := by decide +kernel
theorem dX9_lists_39 : decode cX9_lists 39 = .ok (.iconst 1, 1) := by decide +kernel
theorem dX9_lists_40 : decode cX9_lists 40 = .ok (.iadd, 1) := by decide +kernel
theorem dX9_lists_41 : decode cX9_lists 41 = .ok (.putfield 247, 3) := by decide +kernel
theorem dX9_lists_44 : decode cX9_lists 44 = .ok (.iinc 2 1, 3) := by decide +kernel
theorem dX9_lists_47 : decode cX9_lists 47 = .ok (.goto (-40), 3) := by decide +kernel
theorem dX9_lists_50 : decode cX9_lists 50 = .ok (.return_, 1) := by decide +kernel
theorem dX9_sharesOn_0 : decode cX9_sharesOn 0 = .ok (.aload_n 0, 1) := by decide +kernel
theorem dX9_sharesOn_1 : decode cX9_sharesOn 1 = .ok (.getfield 247, 3) := by decide +kernel
theorem dX9_sharesOn_4 : decode cX9_sharesOn 4 = .ok (.iconst 2, 1) := by decide +kernel
theorem dX9_sharesOn_5 : decode cX9_sharesOn 5 = .ok (.isub, 1) := by decide +kernel
theorem dX9_sharesOn_6 : decode cX9_sharesOn 6 = .ok (.istore_n 1, 1) := by decide +kernel
theorem dX9_sharesOn_7 : decode cX9_sharesOn 7 = .ok (.iload_n 1, 1) := by decide +kernel
theorem dX9_sharesOn_8 : decode cX9_sharesOn 8 = .ok (.ifCond .lt 18, 3) := by decide +kernel
theorem dX9_sharesOn_11 : decode cX9_sharesOn 11 = .ok (.aload_n 0, 1) := by decide +kernel
theorem dX9_sharesOn_12 : decode cX9_sharesOn 12 = .ok (.getfield 71, 3) := by decide +kernel
theorem dX9_sharesOn_15 : decode cX9_sharesOn 15 = .ok (.iload_n 1, 1) := by decide +kernel
theorem dX9_sharesOn_16 : decode cX9_sharesOn 16 = .ok (.iaload, 1) := by decide +kernel
theorem dX9_sharesOn_17 : decode cX9_sharesOn 17 = .ok (.ifCond .ne 9, 3) := by decide +kernel
theorem dX9_sharesOn_20 : decode cX9_sharesOn 20 = .ok (.iinc 1 (-1), 3) := by decide +kernel
theorem dX9_sharesOn_23 : decode cX9_sharesOn 23 = .ok (.goto (-16), 3) := by decide +kernel
theorem dX9_sharesOn_26 : decode cX9_sharesOn 26 = .ok (.iload_n 1, 1) := by decide +kernel
theorem dX9_sharesOn_27 : decode cX9_sharesOn 27 = .ok (.ifCond .ge 5, 3) := by decide +kernel
theorem dX9_sharesOn_30 : decode cX9_sharesOn 30 = .ok (.iconst 0, 1) := by decide +kernel
theorem dX9_sharesOn_31 : decode cX9_sharesOn 31 = .ok (.ireturn, 1) := by decide +kernel
theorem dX9_sharesOn_32 : decode cX9_sharesOn 32 = .ok (.iconst 1, 1) := by decide +kernel
theorem dX9_sharesOn_33 : decode cX9_sharesOn 33 = .ok (.istore_n 2, 1) := by decide +kernel
theorem dX9_sharesOn_34 : decode cX9_sharesOn 34 = .ok (.iload_n 1, 1) := by decide +kernel
theorem dX9_sharesOn_35 : decode cX9_sharesOn 35 = .ok (.iconst 1, 1) := by decide +kernel
theorem dX9_sharesOn_36 : decode cX9_sharesOn 36 = .ok (.iadd, 1) := by decide +kernel
theorem dX9_sharesOn_37 : decode cX9_sharesOn 37 = .ok (.istore_n 3, 1) := by decide +kernel
theorem dX9_sharesOn_38 : decode cX9_sharesOn 38 = .ok (.iload_n 3, 1) := by decide +kernel
theorem dX9_sharesOn_39 : decode cX9_sharesOn 39 = .ok (.aload_n 0, 1) := by decide +kernel
theorem dX9_sharesOn_40 : decode cX9_sharesOn 40 = .ok (.getfield 247, 3) := by decide +kernel
theorem dX9_sharesOn_43 : decode cX9_sharesOn 43 = .ok (.if_icmp .ge 25, 3) := by decide +kernel
theorem dX9_sharesOn_46 : decode cX9_sharesOn 46 = .ok (.iload_n 2, 1) := by decide +kernel
theorem dX9_sharesOn_47 : decode cX9_sharesOn 47 = .ok (.aload_n 0, 1) := by decide +kernel
theorem dX9_sharesOn_48 : decode cX9_sharesOn 48 = .ok (.getfield 71, 3) := by decide +kernel
theorem dX9_sharesOn_51 : decode cX9_sharesOn 51 = .ok (.iload_n 3, 1) := by decide +kernel
theorem dX9_sharesOn_52 : decode cX9_sharesOn 52 = .ok (.iaload, 1) := by decide +kernel
theorem dX9_sharesOn_53 : decode cX9_sharesOn 53 = .ok (.iadd, 1) := by decide +kernel
theorem dX9_sharesOn_54 : decode cX9_sharesOn 54 = .ok (.istore_n 2, 1) := by decide +kernel
theorem dX9_sharesOn_55 : decode cX9_sharesOn 55 = .ok (.aload_n 0, 1) := by decide +kernel
theorem dX9_sharesOn_56 : decode cX9_sharesOn 56 = .ok (.getfield 71, 3) := by decide +kernel
theorem dX9_sharesOn_59 : decode cX9_sharesOn 59 = .ok (.iload_n 3, 1) := by decide +kernel
theorem dX9_sharesOn_60 : decode cX9_sharesOn 60 = .ok (.iconst 0, 1) := by decide +kernel
theorem dX9_sharesOn_61 : decode cX9_sharesOn 61 = .ok (.iastore, 1) := by decide +kernel
theorem dX9_sharesOn_62 : decode cX9_sharesOn 62 = .ok (.iinc 3 1, 3) := by decide +kernel
theorem dX9_sharesOn_65 : decode cX9_sharesOn 65 = .ok (.goto (-27), 3) := by decide +kernel
theorem dX9_sharesOn_68 : decode cX9_sharesOn 68 = .ok (.aload_n 0, 1) := by decide +kernel
theorem dX9_sharesOn_69 : decode cX9_sharesOn 69 = .ok (.getfield 71, 3) := by decide +kernel
theorem dX9_sharesOn_72 : decode cX9_sharesOn 72 = .ok (.iload_n 1, 1) := by decide +kernel
theorem dX9_sharesOn_73 : decode cX9_sharesOn 73 = .ok (.dup2, 1) := by decide +kernel
theorem dX9_sharesOn_74 : decode cX9_sharesOn 74 = .ok (.iaload, 1) := by decide +kernel
theorem dX9_sharesOn_75 : decode cX9_sharesOn 75 = .ok (.iconst 1, 1) := by decide +kernel
theorem dX9_sharesOn_76 : decode cX9_sharesOn 76 = .ok (.isub, 1) := by decide +kernel
theorem dX9_sharesOn_77 : decode cX9_sharesOn 77 = .ok (.iastore, 1) := by decide +kernel
theorem dX9_sharesOn_78 : decode cX9_sharesOn 78 = .ok (.aload_n 0, 1) := by decide +kernel
theorem dX9_sharesOn_79 : decode cX9_sharesOn 79 = .ok (.getfield 71, 3) := by decide +kernel
theorem dX9_sharesOn_82 : decode cX9_sharesOn 82 = .ok (.iload_n 1, 1) := by decide +kernel
theorem dX9_sharesOn_83 : decode cX9_sharesOn 83 = .ok (.iconst 1, 1) := by decide +kernel
theorem dX9_sharesOn_84 : decode cX9_sharesOn 84 = .ok (.iadd, 1) := by decide +kernel
theorem dX9_sharesOn_85 : decode cX9_sharesOn 85 = .ok (.iload_n 2, 1) := by decide +kernel
theorem dX9_sharesOn_86 : decode cX9_sharesOn 86 = .ok (.iastore, 1) := by decide +kernel
theorem dX9_sharesOn_87 : decode cX9_sharesOn 87 = .ok (.iconst 1, 1) := by decide +kernel
theorem dX9_sharesOn_88 : decode cX9_sharesOn 88 = .ok (.ireturn, 1) := by decide +kernel
set_option maxRecDepth 20000 in
theorem ggX9_best_X9_isFamily : GoodIn wsX9_best wsX9_isFamily := goodIn_r _ [13, 14, 15, 16, 12, 17, 75, 76, 77, 78, 79, 80, 81, 82, 83, 84, 85, 86, 87, 88, 89, 90, 91, 92, 93, 94, 95, 96, 97, 98, 99, 100, 101, 102, 103, 104, 105, 106, 107, 108, 109, 110, 111, 112] (by decide +kernel) (by decide +kernel)
set_option maxRecDepth 20000 in
theorem gX9_best_X9_isFamily : GoodIn wsX9_best (wsV RX9 204 RX9 yX9_isFamily wsX9_isFamily) := goodIn_app (goodIn_of _ (by decide +kernel)) ggX9_best_X9_isFamily
set_option maxRecDepth 20000 in
theorem ggX9_best_X9_in : GoodIn wsX9_best wsX9_in := goodIn_r _ [17] (by decide +kernel) (by decide +kernel)
set_option maxRecDepth 20000 in
theorem gX9_best_X9_in : GoodIn wsX9_best (va_wsS RX9 117 yX9_in wsX9_in) := goodIn_app (goodIn_of _ (by decide +kernel)) ggX9_best_X9_in
set_option maxRecDepth 20000 in
theorem ggX9_best_X9_lists : GoodIn wsX9_best wsX9_lists := goodIn_r _ [21, 3, 22, 6, 23, 24, 25, 12, 26, 27, 28, 75, 76, 77, 78, 79, 80, 81, 82, 83, 84, 85, 86, 87, 88, 89, 90, 91, 92, 93, 94, 95, 96, 97, 98, 99, 100, 101, 102, 103, 104, 105, 106, 107, 108, 109, 110, 111, 112] (by decide +kernel) (by decide +kernel)
set_option maxRecDepth 20000 in
theorem gX9_best_X9_lists : GoodIn wsX9_best (wsV RX9 254 RX9 yX9_lists wsX9_lists) := goodIn_app (goodIn_of _ (by decide +kernel)) ggX9_best_X9_lists
set_option maxRecDepth 20000 in
theorem ggX9_best_X9_copies : GoodIn wsX9_best wsX9_copies := goodIn_r _ [32, 7, 75, 76, 77, 78, 79, 80, 81, 82, 83, 84, 85, 86, 87, 88, 89, 90, 91, 92, 93, 94, 95, 96, 97, 98, 99, 100, 101, 102, 103, 104, 105, 106, 107, 108, 109, 110, 111, 112] (by decide +kernel) (by decide +kernel)
set_option maxRecDepth 20000 in
theorem gX9_best_X9_copies : GoodIn wsX9_best (wsV RX9 175 RX9 yX9_copies wsX9_copies) := goodIn_app (goodIn_of _ (by decide +kernel)) ggX9_best_X9_copies
set_option maxRecDepth 20000 in
theorem ggX9_best_X9_puts : GoodIn wsX9_best wsX9_puts := goodIn_r _ [36, 7, 27, 75, 76, 77, 78, 79, 80, 81, 82, 83, 84, 85, 86, 87, 88, 89, 90, 91, 92, 93, 94, 95, 96, 97, 98, 99, 100, 101, 102, 103, 104, 105, 106, 107, 108, 109, 110, 111, 112] (by decide +kernel) (by decide +kernel)
set_option maxRecDepth 20000 in
theorem gX9_best_X9_puts : GoodIn wsX9_best (wsV RX9 129 RX9 yX9_puts wsX9_puts) := goodIn_app (goodIn_of _ (by decide +kernel)) ggX9_best_X9_puts
set_option maxRecDepth 20000 in
theorem ggX9_best_X9_passesBy : GoodIn wsX9_best wsX9_passesBy := goodIn_r _ [40, 41, 42, 43, 12, 44, 22, 45, 46, 27, 47, 28, 7, 48, 49, 50, 51, 52, 53, 54, 55, 56, 57, 58, 59, 60, 61, 62, 63, 64, 65, 66, 67, 68, 69, 70, 75, 76, 77, 78, 79, 80, 81, 82, 83, 84, 85, 86, 87, 88, 89, 90, 91, 92, 93, 94, 95, 96, 97, 98, 99, 100, 101, 102, 103, 104, 105, 106, 107, 108, 109, 110, 111, 112] (by decide +kernel) (by decide +kernel)
set_option maxRecDepth 20000 in
theorem gX9_best_X9_passesBy : GoodIn wsX9_best (wsV RX9 235 RX9 yX9_passesBy wsX9_passesBy) := goodIn_app (goodIn_of _ (by decide +kernel)) ggX9_best_X9_passesBy
set_option maxRecDepth 20000 in
theorem ggX9_best_X9_sharesOn : GoodIn wsX9_best wsX9_sharesOn := goodIn_r _ [74, 3, 4, 75, 76, 77, 78, 79, 80, 81, 82, 83, 84, 85, 86, 87, 88, 89, 90, 91, 92, 93, 94, 95, 96, 97, 98, 99, 100, 101, 102, 103, 104, 105, 106, 107, 108, 109, 110, 111, 112] (by decide +kernel) (by decide +kernel)
set_option maxRecDepth 20000 in
theorem gX9_best_X9_sharesOn : GoodIn wsX9_best (wsV RX9 257 RX9 yX9_sharesOn wsX9_sharesOn) := goodIn_app (goodIn_of _ (by decide +kernel)) ggX9_best_X9_sharesOn
theorem dX9_best_0 : decode cX9_best 0 = .ok (.aload_n 0, 1) := by decide +kernel
theorem dX9_best_1 : decode cX9_best 1 = .ok (.iload_n 1, 1) := by decide +kernel
theorem dX9_best_2 : decode cX9_best 2 = .ok (.invokevirtual 204, 3) := by decide +kernel
theorem dX9_best_5 : decode cX9_best 5 = .ok (.ifCond .eq 27, 3) := by decide +kernel
theorem dX9_best_8 : decode cX9_best 8 = .ok (.iload_n 2, 1) := by decide +kernel
theorem dX9_best_9 : decode cX9_best 9 = .ok (.i2l, 1) := by decide +kernel
theorem dX9_best_10 : decode cX9_best 10 = .ok (.lconst 1, 1) := by decide +kernel
theorem dX9_best_11 : decode cX9_best 11 = .ok (.ldc2_w 250, 3) := by decide +kernel
theorem dX9_best_14 : decode cX9_best 14 = .ok (.invokestatic 117, 3) := by decide +kernel
theorem dX9_best_17 : decode cX9_best 17 = .ok (.ifCond .eq 15, 3) := by decide +kernel
theorem dX9_best_20 : decode cX9_best 20 = .ok (.iload_n 3, 1) := by decide +kernel
theorem dX9_best_21 : decode cX9_best 21 = .ok (.i2l, 1) := by decide +kernel
theorem dX9_best_22 : decode cX9_best 22 = .ok (.lconst 0, 1) := by decide +kernel
theorem dX9_best_23 : decode cX9_best 23 = .ok (.ldc2_w 252, 3) := by decide +kernel
theorem dX9_best_26 : decode cX9_best 26 = .ok (.invokestatic 117, 3) := by decide +kernel
theorem dX9_best_29 : decode cX9_best 29 = .ok (.ifCond .ne 5, 3) := by decide +kernel
theorem dX9_best_32 : decode cX9_best 32 = .ok (.iconst (-1), 1) := by decide +kernel
theorem dX9_best_33 : decode cX9_best 33 = .ok (.ireturn, 1) := by decide +kernel
theorem dX9_best_34 : decode cX9_best 34 = .ok (.aload_n 0, 1) := by decide +kernel
theorem dX9_best_35 : decode cX9_best 35 = .ok (.iload_n 1, 1) := by decide +kernel
theorem dX9_best_36 : decode cX9_best 36 = .ok (.invokevirtual 254, 3) := by decide +kernel
theorem dX9_best_39 : decode cX9_best 39 = .ok (.aload_n 0, 1) := by decide +kernel
theorem dX9_best_40 : decode cX9_best 40 = .ok (.getfield 247, 3) := by decide +kernel
theorem dX9_best_43 : decode cX9_best 43 = .ok (.ifCond .ne 6, 3) := by decide +kernel
theorem dX9_best_46 : decode cX9_best 46 = .ok (.bipush (-4), 2) := by decide +kernel
theorem dX9_best_48 : decode cX9_best 48 = .ok (.ireturn, 1) := by decide +kernel
theorem dX9_best_49 : decode cX9_best 49 = .ok (.iconst 0, 1) := by decide +kernel
theorem dX9_best_50 : decode cX9_best 50 = .ok (.istore 4, 2) := by decide +kernel
theorem dX9_best_52 : decode cX9_best 52 = .ok (.iload 4, 2) := by decide +kernel
theorem dX9_best_54 : decode cX9_best 54 = .ok (.aload_n 0, 1) := by decide +kernel
theorem dX9_best_55 : decode cX9_best 55 = .ok (.getfield 247, 3) := by decide +kernel
theorem dX9_best_58 : decode cX9_best 58 = .ok (.if_icmp .ge 31, 3) := by decide +kernel
theorem dX9_best_61 : decode cX9_best 61 = .ok (.aload_n 0, 1) := by decide +kernel
theorem dX9_best_62 : decode cX9_best 62 = .ok (.getfield 71, 3) := by decide +kernel
theorem dX9_best_65 : decode cX9_best 65 = .ok (.iload 4, 2) := by decide +kernel
theorem dX9_best_67 : decode cX9_best 67 = .ok (.iload 4, 2) := by decide +kernel
theorem dX9_best_69 : decode cX9_best 69 = .ok (.ifCond .ne 12, 3) := by decide +kernel
theorem dX9_best_72 : decode cX9_best 72 = .ok (.aload_n 0, 1) := by decide +kernel
theorem dX9_best_73 : decode cX9_best 73 = .ok (.getfield 13, 3) := by decide +kernel
theorem dX9_best_76 : decode cX9_best 76 = .ok (.iload_n 1, 1) := by decide +kernel
theorem dX9_best_77 : decode cX9_best 77 = .ok (.iaload, 1) := by decide +kernel
theorem dX9_best_78 : decode cX9_best 78 = .ok (.goto 4, 3) := by decide +kernel
theorem dX9_best_81 : decode cX9_best 81 = .ok (.iconst 0, 1) := by decide +kernel
theorem dX9_best_82 : decode cX9_best 82 = .ok (.iastore, 1) := by decide +kernel
theorem dX9_best_83 : decode cX9_best 83 = .ok (.iinc 4 1, 3) := by decide +kernel
theorem dX9_best_86 : decode cX9_best 86 = .ok (.goto (-34), 3) := by decide +kernel
theorem dX9_best_89 : decode cX9_best 89 = .ok (.iconst (-1), 1) := by decide +kernel
theorem dX9_best_90 : decode cX9_best 90 = .ok (.istore 4, 2) := by decide +kernel
theorem dX9_best_92 : decode cX9_best 92 = .ok (.iconst 1, 1) := by decide +kernel
theorem dX9_best_93 : decode cX9_best 93 = .ok (.istore 5, 2) := by decide +kernel
theorem dX9_best_95 : decode cX9_best 95 = .ok (.iload 5, 2) := by decide +kernel
theorem dX9_best_97 : decode cX9_best 97 = .ok (.ifCond .eq 134, 3) := by decide +kernel
theorem dX9_best_100 : decode cX9_best 100 = .ok (.aload_n 0, 1) := by decide +kernel
theorem dX9_best_101 : decode cX9_best 101 = .ok (.iconst 0, 1) := by decide +kernel
theorem dX9_best_102 : decode cX9_best 102 = .ok (.sipush 385, 3) := by decide +kernel
theorem dX9_best_105 : decode cX9_best 105 = .ok (.invokevirtual 175, 3) := by decide +kernel
theorem dX9_best_108 : decode cX9_best 108 = .ok (.iconst 0, 1) := by decide +kernel
theorem dX9_best_109 : decode cX9_best 109 = .ok (.istore 6, 2) := by decide +kernel
theorem dX9_best_111 : decode cX9_best 111 = .ok (.iload 6, 2) := by decide +kernel
theorem dX9_best_113 : decode cX9_best 113 = .ok (.aload_n 0, 1) := by decide +kernel
theorem dX9_best_114 : decode cX9_best 114 = .ok (.getfield 247, 3) := by decide +kernel
theorem dX9_best_117 : decode cX9_best 117 = .ok (.if_icmp .ge 31, 3) := by decide +kernel
theorem dX9_best_120 : decode cX9_best 120 = .ok (.aload_n 0, 1) := by decide +kernel
theorem dX9_best_121 : decode cX9_best 121 = .ok (.sipush 385, 3) := by decide +kernel
theorem dX9_best_124 : decode cX9_best 124 = .ok (.iload_n 1, 1) := by decide +kernel
theorem dX9_best_125 : decode cX9_best 125 = .ok (.aload_n 0, 1) := by decide +kernel
theorem dX9_best_126 : decode cX9_best 126 = .ok (.getfield 68, 3) := by decide +kernel
theorem dX9_best_129 : decode cX9_best 129 = .ok (.iload 6, 2) := by decide +kernel
theorem dX9_best_131 : decode cX9_best 131 = .ok (.iaload, 1) := by decide +kernel
theorem dX9_best_132 : decode cX9_best 132 = .ok (.aload_n 0, 1) := by decide +kernel
theorem dX9_best_133 : decode cX9_best 133 = .ok (.getfield 71, 3) := by decide +kernel
theorem dX9_best_136 : decode cX9_best 136 = .ok (.iload 6, 2) := by decide +kernel
theorem dX9_best_138 : decode cX9_best 138 = .ok (.iaload, 1) := by decide +kernel
theorem dX9_best_139 : decode cX9_best 139 = .ok (.invokevirtual 129, 3) := by decide +kernel
theorem dX9_best_142 : decode cX9_best 142 = .ok (.iinc 6 1, 3) := by decide +kernel
theorem dX9_best_145 : decode cX9_best 145 = .ok (.goto (-34), 3) := by decide +kernel
theorem dX9_best_148 : decode cX9_best 148 = .ok (.aload_n 0, 1) := by decide +kernel
theorem dX9_best_149 : decode cX9_best 149 = .ok (.sipush 385, 3) := by decide +kernel
theorem dX9_best_152 : decode cX9_best 152 = .ok (.iload_n 2, 1) := by decide +kernel
theorem dX9_best_153 : decode cX9_best 153 = .ok (.invokevirtual 235, 3) := by decide +kernel
theorem dX9_best_156 : decode cX9_best 156 = .ok (.istore 6, 2) := by decide +kernel
theorem dX9_best_158 : decode cX9_best 158 = .ok (.iload 6, 2) := by decide +kernel
theorem dX9_best_160 : decode cX9_best 160 = .ok (.ifCond .lt 62, 3) := by decide +kernel
theorem dX9_best_163 : decode cX9_best 163 = .ok (.aload_n 0, 1) := by decide +kernel
theorem dX9_best_164 : decode cX9_best 164 = .ok (.getfield 46, 3) := by decide +kernel
theorem dX9_best_167 : decode cX9_best 167 = .ok (.sipush 385, 3) := by decide +kernel
theorem dX9_best_170 : decode cX9_best 170 = .ok (.iload_n 1, 1) := by decide +kernel
theorem dX9_best_171 : decode cX9_best 171 = .ok (.iadd, 1) := by decide +kernel
theorem dX9_best_172 : decode cX9_best 172 = .ok (.iaload, 1) := by decide +kernel
theorem dX9_best_173 : decode cX9_best 173 = .ok (.iload 4, 2) := by decide +kernel
theorem dX9_best_175 : decode cX9_best 175 = .ok (.if_icmp .le 47, 3) := by decide +kernel
theorem dX9_best_178 : decode cX9_best 178 = .ok (.aload_n 0, 1) := by decide +kernel
theorem dX9_best_179 : decode cX9_best 179 = .ok (.getfield 46, 3) := by decide +kernel
theorem dX9_best_182 : decode cX9_best 182 = .ok (.sipush 385, 3) := by decide +kernel
theorem dX9_best_185 : decode cX9_best 185 = .ok (.iload_n 1, 1) := by decide +kernel
theorem dX9_best_186 : decode cX9_best 186 = .ok (.iadd, 1) := by decide +kernel
theorem dX9_best_187 : decode cX9_best 187 = .ok (.iaload, 1) := by decide +kernel
theorem dX9_best_188 : decode cX9_best 188 = .ok (.istore 4, 2) := by decide +kernel
theorem dX9_best_190 : decode cX9_best 190 = .ok (.iconst 0, 1) := by decide +kernel
theorem dX9_best_191 : decode cX9_best 191 = .ok (.istore 7, 2) := by decide +kernel
theorem dX9_best_193 : decode cX9_best 193 = .ok (.iload 7, 2) := by decide +kernel
theorem dX9_best_195 : decode cX9_best 195 = .ok (.aload_n 0, 1) := by decide +kernel
theorem dX9_best_196 : decode cX9_best 196 = .ok (.getfield 247, 3) := by decide +kernel
theorem dX9_best_199 : decode cX9_best 199 = .ok (.if_icmp .ge 23, 3) := by decide +kernel
theorem dX9_best_202 : decode cX9_best 202 = .ok (.aload_n 0, 1) := by decide +kernel
theorem dX9_best_203 : decode cX9_best 203 = .ok (.getfield 74, 3) := by decide +kernel
theorem dX9_best_206 : decode cX9_best 206 = .ok (.iload 7, 2) := by decide +kernel
theorem dX9_best_208 : decode cX9_best 208 = .ok (.aload_n 0, 1) := by decide +kernel
theorem dX9_best_209 : decode cX9_best 209 = .ok (.getfield 71, 3) := by decide +kernel
theorem dX9_best_212 : decode cX9_best 212 = .ok (.iload 7, 2) := by decide +kernel
theorem dX9_best_214 : decode cX9_best 214 = .ok (.iaload, 1) := by decide +kernel
theorem dX9_best_215 : decode cX9_best 215 = .ok (.iastore, 1) := by decide +kernel
theorem dX9_best_216 : decode cX9_best 216 = .ok (.iinc 7 1, 3) := by decide +kernel
theorem dX9_best_219 : decode cX9_best 219 = .ok (.goto (-26), 3) := by decide +kernel
theorem dX9_best_222 : decode cX9_best 222 = .ok (.aload_n 0, 1) := by decide +kernel
theorem dX9_best_223 : decode cX9_best 223 = .ok (.invokevirtual 257, 3) := by decide +kernel
theorem dX9_best_226 : decode cX9_best 226 = .ok (.istore 5, 2) := by decide +kernel
theorem dX9_best_228 : decode cX9_best 228 = .ok (.goto (-133), 3) := by decide +kernel
theorem dX9_best_231 : decode cX9_best 231 = .ok (.iload_n 3, 1) := by decide +kernel
theorem dX9_best_232 : decode cX9_best 232 = .ok (.ifCond .ne 8, 3) := by decide +kernel
theorem dX9_best_235 : decode cX9_best 235 = .ok (.iload 4, 2) := by decide +kernel
theorem dX9_best_237 : decode cX9_best 237 = .ok (.goto 24, 3) := by decide +kernel
theorem dX9_best_240 : decode cX9_best 240 = .ok (.iload_n 3, 1) := by decide +kernel
theorem dX9_best_241 : decode cX9_best 241 = .ok (.aload_n 0, 1) := by decide +kernel
theorem dX9_best_242 : decode cX9_best 242 = .ok (.getfield 247, 3) := by decide +kernel
theorem dX9_best_245 : decode cX9_best 245 = .ok (.if_icmp .le 8, 3) := by decide +kernel
theorem dX9_best_248 : decode cX9_best 248 = .ok (.bipush (-4), 2) := by decide +kernel
theorem dX9_best_250 : decode cX9_best 250 = .ok (.goto 11, 3) := by decide +kernel
theorem dX9_best_253 : decode cX9_best 253 = .ok (.aload_n 0, 1) := by decide +kernel
theorem dX9_best_254 : decode cX9_best 254 = .ok (.getfield 74, 3) := by decide +kernel
theorem dX9_best_257 : decode cX9_best 257 = .ok (.iload_n 3, 1) := by decide +kernel
theorem dX9_best_258 : decode cX9_best 258 = .ok (.iconst 1, 1) := by decide +kernel
theorem dX9_best_259 : decode cX9_best 259 = .ok (.isub, 1) := by decide +kernel
theorem dX9_best_260 : decode cX9_best 260 = .ok (.iaload, 1) := by decide +kernel
theorem dX9_best_261 : decode cX9_best 261 = .ok (.ireturn, 1) := by decide +kernel
set_option maxRecDepth 20000 in
theorem ggX9_enough_X9_isFamily : GoodIn wsX9_enough wsX9_isFamily := goodIn_r _ [7, 8, 9, 10, 6, 11, 69, 70, 71, 72, 73, 74, 75, 76, 77, 78, 79, 80, 81, 82, 83, 84, 85, 86, 87, 88, 89, 90, 91, 92, 93, 94, 95, 96, 97, 98, 99, 100, 101, 102, 103, 104, 105, 106] (by decide +kernel) (by decide +kernel)
set_option maxRecDepth 20000 in
theorem gX9_enough_X9_isFamily : GoodIn wsX9_enough (wsV RX9 204 RX9 yX9_isFamily wsX9_isFamily) := goodIn_app (goodIn_of _ (by decide +kernel)) ggX9_enough_X9_isFamily
set_option maxRecDepth 20000 in
theorem ggX9_enough_X9_in : GoodIn wsX9_enough wsX9_in := goodIn_r _ [11] (by decide +kernel) (by decide +kernel)
set_option maxRecDepth 20000 in
theorem gX9_enough_X9_in : GoodIn wsX9_enough (va_wsS RX9 117 yX9_in wsX9_in) := goodIn_app (goodIn_of _ (by decide +kernel)) ggX9_enough_X9_in
set_option maxRecDepth 20000 in
theorem ggX9_enough_X9_copies : GoodIn wsX9_enough wsX9_copies := goodIn_r _ [15, 2, 69, 70, 71, 72, 73, 74, 75, 76, 77, 78, 79, 80, 81, 82, 83, 84, 85, 86, 87, 88, 89, 90, 91, 92, 93, 94, 95, 96, 97, 98, 99, 100, 101, 102, 103, 104, 105, 106] (by decide +kernel) (by decide +kernel)
set_option maxRecDepth 20000 in
theorem gX9_enough_X9_copies : GoodIn wsX9_enough (wsV RX9 175 RX9 yX9_copies wsX9_copies) := goodIn_app (goodIn_of _ (by decide +kernel)) ggX9_enough_X9_copies
set_option maxRecDepth 20000 in
theorem ggX9_enough_X9_evenly : GoodIn wsX9_enough wsX9_evenly := goodIn_r _ [19, 20, 21, 22, 23, 6, 24, 25, 26, 27, 28, 29, 30, 31, 32, 33, 34, 2, 69, 70, 71, 72, 73, 74, 75, 76, 77, 78, 79, 80, 81, 82, 83, 84, 85, 86, 87, 88, 89, 90, 91, 92, 93, 94, 95, 96, 97, 98, 99, 100, 101, 102, 103, 104, 105, 106] (by decide +kernel) (by decide +kernel)
set_option maxRecDepth 20000 in
theorem gX9_enough_X9_evenly : GoodIn wsX9_enough (wsV RX9 98 RX9 yX9_evenly wsX9_evenly) := goodIn_app (goodIn_of _ (by decide +kernel)) ggX9_enough_X9_evenly
set_option maxRecDepth 20000 in
theorem ggX9_enough_X9_passesBy : GoodIn wsX9_enough wsX9_passesBy := goodIn_r _ [38, 39, 40, 41, 6, 42, 20, 43, 44, 29, 45, 30, 2, 46, 47, 48, 49, 50, 51, 52, 53, 54, 55, 56, 57, 58, 59, 60, 61, 62, 63, 64, 65, 66, 67, 68, 69, 70, 71, 72, 73, 74, 75, 76, 77, 78, 79, 80, 81, 82, 83, 84, 85, 86, 87, 88, 89, 90, 91, 92, 93, 94, 95, 96, 97, 98, 99, 100, 101, 102, 103, 104, 105, 106] (by decide +kernel) (by decide +kernel)
set_option maxRecDepth 20000 in
theorem gX9_enough_X9_passesBy : GoodIn wsX9_enough (wsV RX9 235 RX9 yX9_passesBy wsX9_passesBy) := goodIn_app (goodIn_of _ (by decide +kernel)) ggX9_enough_X9_passesBy
theorem dX9_enough_0 : decode cX9_enough 0 = .ok (.aload_n 0, 1) := by decide +kernel
theorem dX9_enough_1 : decode cX9_enough 1 = .ok (.iload_n 1, 1) := by decide +kernel
theorem dX9_enough_2 : decode cX9_enough 2 = .ok (.invokevirtual 204, 3) := by decide +kernel
theorem dX9_enough_5 : decode cX9_enough 5 = .ok (.ifCond .eq 15, 3) := by decide +kernel
theorem dX9_enough_8 : decode cX9_enough 8 = .ok (.iload_n 2, 1) := by decide +kernel
theorem dX9_enough_9 : decode cX9_enough 9 = .ok (.i2l, 1) := by decide +kernel
theorem dX9_enough_10 : decode cX9_enough 10 = .ok (.lconst 1, 1) := by decide +kernel
theorem dX9_enough_11 : decode cX9_enough 11 = .ok (.ldc2_w 250, 3) := by decide +kernel
theorem dX9_enough_14 : decode cX9_enough 14 = .ok (.invokestatic 117, 3) := by decide +kernel
theorem dX9_enough_17 : decode cX9_enough 17 = .ok (.ifCond .ne 5, 3) := by decide +kernel
theorem dX9_enough_20 : decode cX9_enough 20 = .ok (.iconst (-1), 1) := by decide +kernel
theorem dX9_enough_21 : decode cX9_enough 21 = .ok (.ireturn, 1) := by decide +kernel
theorem dX9_enough_22 : decode cX9_enough 22 = .ok (.iconst 0, 1) := by decide +kernel
theorem dX9_enough_23 : decode cX9_enough 23 = .ok (.istore_n 3, 1) := by decide +kernel
theorem dX9_enough_24 : decode cX9_enough 24 = .ok (.iconst 0, 1) := by decide +kernel
theorem dX9_enough_25 : decode cX9_enough 25 = .ok (.istore 4, 2) := by decide +kernel
theorem dX9_enough_27 : decode cX9_enough 27 = .ok (.iload 4, 2) := by decide +kernel
theorem dX9_enough_29 : decode cX9_enough 29 = .ok (.bipush 12, 2) := by decide +kernel
theorem dX9_enough_31 : decode cX9_enough 31 = .ok (.if_icmp .gt 64, 3) := by decide +kernel
theorem dX9_enough_34 : decode cX9_enough 34 = .ok (.aload_n 0, 1) := by decide +kernel
theorem dX9_enough_35 : decode cX9_enough 35 = .ok (.iconst 0, 1) := by decide +kernel
theorem dX9_enough_36 : decode cX9_enough 36 = .ok (.sipush 385, 3) := by decide +kernel
theorem dX9_enough_39 : decode cX9_enough 39 = .ok (.invokevirtual 175, 3) := by decide +kernel
theorem dX9_enough_42 : decode cX9_enough 42 = .ok (.aload_n 0, 1) := by decide +kernel
theorem dX9_enough_43 : decode cX9_enough 43 = .ok (.sipush 385, 3) := by decide +kernel
theorem dX9_enough_46 : decode cX9_enough 46 = .ok (.iload_n 1, 1) := by decide +kernel
theorem dX9_enough_47 : decode cX9_enough 47 = .ok (.iload 4, 2) := by decide +kernel
theorem dX9_enough_49 : decode cX9_enough 49 = .ok (.invokevirtual 98, 3) := by decide +kernel
theorem dX9_enough_52 : decode cX9_enough 52 = .ok (.iload_n 3, 1) := by decide +kernel
theorem dX9_enough_53 : decode cX9_enough 53 = .ok (.aload_n 0, 1) := by decide +kernel
theorem dX9_enough_54 : decode cX9_enough 54 = .ok (.sipush 385, 3) := by decide +kernel
theorem dX9_enough_57 : decode cX9_enough 57 = .ok (.iload_n 2, 1) := by decide +kernel
theorem dX9_enough_58 : decode cX9_enough 58 = .ok (.invokevirtual 235, 3) := by decide +kernel
theorem dX9_enough_61 : decode cX9_enough 61 = .ok (.iadd, 1) := by decide +kernel
theorem dX9_enough_62 : decode cX9_enough 62 = .ok (.istore_n 3, 1) := by decide +kernel
theorem dX9_enough_63 : decode cX9_enough 63 = .ok (.iload_n 3, 1) := by decide +kernel
theorem dX9_enough_64 : decode cX9_enough 64 = .ok (.ifCond .lt 25, 3) := by decide +kernel
theorem dX9_enough_67 : decode cX9_enough 67 = .ok (.aload_n 0, 1) := by decide +kernel
theorem dX9_enough_68 : decode cX9_enough 68 = .ok (.getfield 46, 3) := by decide +kernel
theorem dX9_enough_71 : decode cX9_enough 71 = .ok (.sipush 385, 3) := by decide +kernel
theorem dX9_enough_74 : decode cX9_enough 74 = .ok (.iload_n 1, 1) := by decide +kernel
theorem dX9_enough_75 : decode cX9_enough 75 = .ok (.iadd, 1) := by decide +kernel
theorem dX9_enough_76 : decode cX9_enough 76 = .ok (.iaload, 1) := by decide +kernel
theorem dX9_enough_77 : decode cX9_enough 77 = .ok (.aload_n 0, 1) := by decide +kernel
theorem dX9_enough_78 : decode cX9_enough 78 = .ok (.getfield 46, 3) := by decide +kernel
theorem dX9_enough_81 : decode cX9_enough 81 = .ok (.iload_n 1, 1) := by decide +kernel
theorem dX9_enough_82 : decode cX9_enough 82 = .ok (.iaload, 1) := by decide +kernel
theorem dX9_enough_83 : decode cX9_enough 83 = .ok (.if_icmp .lt 6, 3) := by decide +kernel
theorem dX9_enough_86 : decode cX9_enough 86 = .ok (.iload 4, 2) := by decide +kernel
theorem dX9_enough_88 : decode cX9_enough 88 = .ok (.ireturn, 1) := by decide +kernel
theorem dX9_enough_89 : decode cX9_enough 89 = .ok (.iinc 4 1, 3) := by decide +kernel
theorem dX9_enough_92 : decode cX9_enough 92 = .ok (.goto (-65), 3) := by decide +kernel
theorem dX9_enough_95 : decode cX9_enough 95 = .ok (.bipush (-4), 2) := by decide +kernel
theorem dX9_enough_97 : decode cX9_enough 97 = .ok (.ireturn, 1) := by decide +kernel
set_option maxRecDepth 20000 in
theorem ggX9_nextTo_X9_isFamily : GoodIn wsX9_nextTo wsX9_isFamily := goodIn_r _ [9, 10, 11, 12, 8, 13, 52, 53, 54, 55, 56, 57, 58, 59, 60, 61, 62, 63, 64, 65, 66, 67, 68, 69, 70, 71, 72, 73, 74, 75, 76, 77, 78, 79, 80, 81, 82, 83, 84, 85, 86, 87, 88, 89] (by decide +kernel) (by decide +kernel)
set_option maxRecDepth 20000 in
theorem gX9_nextTo_X9_isFamily : GoodIn wsX9_nextTo (wsV RX9 204 RX9 yX9_isFamily wsX9_isFamily) := goodIn_app (goodIn_of _ (by decide +kernel)) ggX9_nextTo_X9_isFamily
set_option maxRecDepth 20000 in
theorem ggX9_nextTo_X9_copies : GoodIn wsX9_nextTo wsX9_copies := goodIn_r _ [17, 1, 52, 53, 54, 55, 56, 57, 58, 59, 60, 61, 62, 63, 64, 65, 66, 67, 68, 69, 70, 71, 72, 73, 74, 75, 76, 77, 78, 79, 80, 81, 82, 83, 84, 85, 86, 87, 88, 89] (by decide +kernel) (by decide +kernel)
set_option maxRecDepth 20000 in
theorem gX9_nextTo_X9_copies : GoodIn wsX9_nextTo (wsV RX9 175 RX9 yX9_copies wsX9_copies) := goodIn_app (goodIn_of _ (by decide +kernel)) ggX9_nextTo_X9_copies
set_option maxRecDepth 20000 in
theorem ggX9_nextTo_X9_passesBy : GoodIn wsX9_nextTo wsX9_passesBy := goodIn_r _ [21, 22, 23, 24, 8, 25, 3, 26, 27, 2, 28, 4, 1, 29, 30, 31, 32, 33, 34, 35, 36, 37, 38, 39, 40, 41, 42, 43, 44, 45, 46, 47, 48, 49, 50, 51, 52, 53, 54, 55, 56, 57, 58, 59, 60, 61, 62, 63, 64, 65, 66, 67, 68, 69, 70, 71, 72, 73, 74, 75, 76, 77, 78, 79, 80, 81, 82, 83, 84, 85, 86, 87, 88, 89] (by decide +kernel) (by decide +kernel)
set_option maxRecDepth 20000 in
theorem gX9_nextTo_X9_passesBy : GoodIn wsX9_nextTo (wsV RX9 235 RX9 yX9_passesBy wsX9_passesBy) := goodIn_app (goodIn_of _ (by decide +kernel)) ggX9_nextTo_X9_passesBy
theorem dX9_nextTo_0 : decode cX9_nextTo 0 = .ok (.aload_n 0, 1) := by decide +kernel
theorem dX9_nextTo_1 : decode cX9_nextTo 1 = .ok (.iload_n 1, 1) := by decide +kernel
theorem dX9_nextTo_2 : decode cX9_nextTo 2 = .ok (.invokevirtual 204, 3) := by decide +kernel
theorem dX9_nextTo_5 : decode cX9_nextTo 5 = .ok (.ifCond .eq 16, 3) := by decide +kernel
theorem dX9_nextTo_8 : decode cX9_nextTo 8 = .ok (.aload_n 0, 1) := by decide +kernel
theorem dX9_nextTo_9 : decode cX9_nextTo 9 = .ok (.iload_n 2, 1) := by decide +kernel
theorem dX9_nextTo_10 : decode cX9_nextTo 10 = .ok (.invokevirtual 204, 3) := by decide +kernel
theorem dX9_nextTo_13 : decode cX9_nextTo 13 = .ok (.ifCond .eq 8, 3) := by decide +kernel
theorem dX9_nextTo_16 : decode cX9_nextTo 16 = .ok (.iload_n 1, 1) := by decide +kernel
theorem dX9_nextTo_17 : decode cX9_nextTo 17 = .ok (.iload_n 2, 1) := by decide +kernel
theorem dX9_nextTo_18 : decode cX9_nextTo 18 = .ok (.if_icmp .ne 5, 3) := by decide +kernel
theorem dX9_nextTo_21 : decode cX9_nextTo 21 = .ok (.iconst (-1), 1) := by decide +kernel
theorem dX9_nextTo_22 : decode cX9_nextTo 22 = .ok (.ireturn, 1) := by decide +kernel
theorem dX9_nextTo_23 : decode cX9_nextTo 23 = .ok (.aload_n 0, 1) := by decide +kernel
theorem dX9_nextTo_24 : decode cX9_nextTo 24 = .ok (.iconst 0, 1) := by decide +kernel
theorem dX9_nextTo_25 : decode cX9_nextTo 25 = .ok (.sipush 385, 3) := by decide +kernel
theorem dX9_nextTo_28 : decode cX9_nextTo 28 = .ok (.invokevirtual 175, 3) := by decide +kernel
theorem dX9_nextTo_31 : decode cX9_nextTo 31 = .ok (.aload_n 0, 1) := by decide +kernel
theorem dX9_nextTo_32 : decode cX9_nextTo 32 = .ok (.sipush 385, 3) := by decide +kernel
theorem dX9_nextTo_35 : decode cX9_nextTo 35 = .ok (.bipush 7, 2) := by decide +kernel
theorem dX9_nextTo_37 : decode cX9_nextTo 37 = .ok (.invokevirtual 235, 3) := by decide +kernel
theorem dX9_nextTo_40 : decode cX9_nextTo 40 = .ok (.istore_n 3, 1) := by decide +kernel
theorem dX9_nextTo_41 : decode cX9_nextTo 41 = .ok (.aload_n 0, 1) := by decide +kernel
theorem dX9_nextTo_42 : decode cX9_nextTo 42 = .ok (.getfield 46, 3) := by decide +kernel
theorem dX9_nextTo_45 : decode cX9_nextTo 45 = .ok (.sipush 385, 3) := by decide +kernel
theorem dX9_nextTo_48 : decode cX9_nextTo 48 = .ok (.iload_n 1, 1) := by decide +kernel
theorem dX9_nextTo_49 : decode cX9_nextTo 49 = .ok (.iadd, 1) := by decide +kernel
theorem dX9_nextTo_50 : decode cX9_nextTo 50 = .ok (.iaload, 1) := by decide +kernel
theorem dX9_nextTo_51 : decode cX9_nextTo 51 = .ok (.istore 4, 2) := by decide +kernel
theorem dX9_nextTo_53 : decode cX9_nextTo 53 = .ok (.aload_n 0, 1) := by decide +kernel
theorem dX9_nextTo_54 : decode cX9_nextTo 54 = .ok (.iconst 0, 1) := by decide +kernel
theorem dX9_nextTo_55 : decode cX9_nextTo 55 = .ok (.sipush 385, 3) := by decide +kernel
theorem dX9_nextTo_58 : decode cX9_nextTo 58 = .ok (.invokevirtual 175, 3) := by decide +kernel
theorem dX9_nextTo_61 : decode cX9_nextTo 61 = .ok (.aload_n 0, 1) := by decide +kernel
theorem dX9_nextTo_62 : decode cX9_nextTo 62 = .ok (.getfield 16, 3) := by decide +kernel
theorem dX9_nextTo_65 : decode cX9_nextTo 65 = .ok (.aload_n 0, 1) := by decide +kernel
theorem dX9_nextTo_66 : decode cX9_nextTo 66 = .ok (.getfield 111, 3) := by decide +kernel
theorem dX9_nextTo_69 : decode cX9_nextTo 69 = .ok (.iload_n 1, 1) := by decide +kernel
theorem dX9_nextTo_70 : decode cX9_nextTo 70 = .ok (.iastore, 1) := by decide +kernel
theorem dX9_nextTo_71 : decode cX9_nextTo 71 = .ok (.aload_n 0, 1) := by decide +kernel
theorem dX9_nextTo_72 : decode cX9_nextTo 72 = .ok (.getfield 19, 3) := by decide +kernel
theorem dX9_nextTo_75 : decode cX9_nextTo 75 = .ok (.aload_n 0, 1) := by decide +kernel
theorem dX9_nextTo_76 : decode cX9_nextTo 76 = .ok (.getfield 111, 3) := by decide +kernel
theorem dX9_nextTo_79 : decode cX9_nextTo 79 = .ok (.iload_n 2, 1) := by decide +kernel
theorem dX9_nextTo_80 : decode cX9_nextTo 80 = .ok (.iastore, 1) := by decide +kernel
theorem dX9_nextTo_81 : decode cX9_nextTo 81 = .ok (.aload_n 0, 1) := by decide +kernel
theorem dX9_nextTo_82 : decode cX9_nextTo 82 = .ok (.getfield 46, 3) := by decide +kernel
theorem dX9_nextTo_85 : decode cX9_nextTo 85 = .ok (.sipush 391, 3) := by decide +kernel
theorem dX9_nextTo_88 : decode cX9_nextTo 88 = .ok (.aload_n 0, 1) := by decide +kernel
theorem dX9_nextTo_89 : decode cX9_nextTo 89 = .ok (.getfield 111, 3) := by decide +kernel
theorem dX9_nextTo_92 : decode cX9_nextTo 92 = .ok (.iadd, 1) := by decide +kernel
theorem dX9_nextTo_93 : decode cX9_nextTo 93 = .ok (.iconst 0, 1) := by decide +kernel
theorem dX9_nextTo_94 : decode cX9_nextTo 94 = .ok (.iastore, 1) := by decide +kernel
theorem dX9_nextTo_95 : decode cX9_nextTo 95 = .ok (.aload_n 0, 1) := by decide +kernel
theorem dX9_nextTo_96 : decode cX9_nextTo 96 = .ok (.getfield 46, 3) := by decide +kernel
theorem dX9_nextTo_99 : decode cX9_nextTo 99 = .ok (.sipush 400, 3) := by decide +kernel
theorem dX9_nextTo_102 : decode cX9_nextTo 102 = .ok (.aload_n 0, 1) := by decide +kernel
theorem dX9_nextTo_103 : decode cX9_nextTo 103 = .ok (.getfield 111, 3) := by decide +kernel
theorem dX9_nextTo_106 : decode cX9_nextTo 106 = .ok (.iadd, 1) := by decide +kernel
theorem dX9_nextTo_107 : decode cX9_nextTo 107 = .ok (.iconst 0, 1) := by decide +kernel
theorem dX9_nextTo_108 : decode cX9_nextTo 108 = .ok (.iastore, 1) := by decide +kernel
theorem dX9_nextTo_109 : decode cX9_nextTo 109 = .ok (.aload_n 0, 1) := by decide +kernel
theorem dX9_nextTo_110 : decode cX9_nextTo 110 = .ok (.getfield 46, 3) := by decide +kernel
theorem dX9_nextTo_113 : decode cX9_nextTo 113 = .ok (.sipush 409, 3) := by decide +kernel
theorem dX9_nextTo_116 : decode cX9_nextTo 116 = .ok (.aload_n 0, 1) := by decide +kernel
theorem dX9_nextTo_117 : decode cX9_nextTo 117 = .ok (.getfield 111, 3) := by decide +kernel
theorem dX9_nextTo_120 : decode cX9_nextTo 120 = .ok (.iadd, 1) := by decide +kernel
theorem dX9_nextTo_121 : decode cX9_nextTo 121 = .ok (.iconst 0, 1) := by decide +kernel
theorem dX9_nextTo_122 : decode cX9_nextTo 122 = .ok (.iastore, 1) := by decide +kernel
theorem dX9_nextTo_123 : decode cX9_nextTo 123 = .ok (.aload_n 0, 1) := by decide +kernel
theorem dX9_nextTo_124 : decode cX9_nextTo 124 = .ok (.dup, 1) := by decide +kernel
theorem dX9_nextTo_125 : decode cX9_nextTo 125 = .ok (.getfield 111, 3) := by decide +kernel
theorem dX9_nextTo_128 : decode cX9_nextTo 128 = .ok (.iconst 1, 1) := by decide +kernel
theorem dX9_nextTo_129 : decode cX9_nextTo 129 = .ok (.iadd, 1) := by decide +kernel
theorem dX9_nextTo_130 : decode cX9_nextTo 130 = .ok (.putfield 111, 3) := by decide +kernel
theorem dX9_nextTo_133 : decode cX9_nextTo 133 = .ok (.iload_n 3, 1) := by decide +kernel
theorem dX9_nextTo_134 : decode cX9_nextTo 134 = .ok (.aload_n 0, 1) := by decide +kernel
theorem dX9_nextTo_135 : decode cX9_nextTo 135 = .ok (.sipush 385, 3) := by decide +kernel
theorem dX9_nextTo_138 : decode cX9_nextTo 138 = .ok (.bipush 7, 2) := by decide +kernel
theorem dX9_nextTo_140 : decode cX9_nextTo 140 = .ok (.invokevirtual 235, 3) := by decide +kernel
theorem dX9_nextTo_143 : decode cX9_nextTo 143 = .ok (.iadd, 1) := by decide +kernel
theorem dX9_nextTo_144 : decode cX9_nextTo 144 = .ok (.istore_n 3, 1) := by decide +kernel
theorem dX9_nextTo_145 : decode cX9_nextTo 145 = .ok (.aload_n 0, 1) := by decide +kernel
theorem dX9_nextTo_146 : decode cX9_nextTo 146 = .ok (.dup, 1) := by decide +kernel
theorem dX9_nextTo_147 : decode cX9_nextTo 147 = .ok (.getfield 111, 3) := by decide +kernel
theorem dX9_nextTo_150 : decode cX9_nextTo 150 = .ok (.iconst 1, 1) := by decide +kernel
theorem dX9_nextTo_151 : decode cX9_nextTo 151 = .ok (.isub, 1) := by decide +kernel
theorem dX9_nextTo_152 : decode cX9_nextTo 152 = .ok (.putfield 111, 3) := by decide +kernel
theorem dX9_nextTo_155 : decode cX9_nextTo 155 = .ok (.iload_n 3, 1) := by decide +kernel
theorem dX9_nextTo_156 : decode cX9_nextTo 156 = .ok (.ifCond .ge 8, 3) := by decide +kernel
theorem dX9_nextTo_159 : decode cX9_nextTo 159 = .ok (.bipush (-2), 2) := by decide +kernel
theorem dX9_nextTo_161 : decode cX9_nextTo 161 = .ok (.goto 19, 3) := by decide +kernel
theorem dX9_nextTo_164 : decode cX9_nextTo 164 = .ok (.aload_n 0, 1) := by decide +kernel
theorem dX9_nextTo_165 : decode cX9_nextTo 165 = .ok (.getfield 46, 3) := by decide +kernel
theorem dX9_nextTo_168 : decode cX9_nextTo 168 = .ok (.sipush 385, 3) := by decide +kernel
theorem dX9_nextTo_171 : decode cX9_nextTo 171 = .ok (.iload_n 1, 1) := by decide +kernel
theorem dX9_nextTo_172 : decode cX9_nextTo 172 = .ok (.iadd, 1) := by decide +kernel
theorem dX9_nextTo_173 : decode cX9_nextTo 173 = .ok (.iaload, 1) := by decide +kernel
theorem dX9_nextTo_174 : decode cX9_nextTo 174 = .ok (.iload 4, 2) := by decide +kernel
theorem dX9_nextTo_176 : decode cX9_nextTo 176 = .ok (.isub, 1) := by decide +kernel
theorem dX9_nextTo_177 : decode cX9_nextTo 177 = .ok (.bipush 50, 2) := by decide +kernel
theorem dX9_nextTo_179 : decode cX9_nextTo 179 = .ok (.iadd, 1) := by decide +kernel
theorem dX9_nextTo_180 : decode cX9_nextTo 180 = .ok (.ireturn, 1) := by decide +kernel
set_option maxRecDepth 20000 in
theorem ggX9_takes_X9_copies : GoodIn wsX9_takes wsX9_copies := goodIn_r _ [8, 3, 62, 63, 64, 65, 66, 67, 68, 69, 70, 71, 72, 73, 74, 75, 76, 77, 78, 79, 80, 81, 82, 83, 84, 85, 86, 87, 88, 89, 90, 91, 92, 93, 94, 95, 96, 97, 98, 99] (by decide +kernel) (by decide +kernel)
set_option maxRecDepth 20000 in
theorem gX9_takes_X9_copies : GoodIn wsX9_takes (wsV RX9 175 RX9 yX9_copies wsX9_copies) := goodIn_app (goodIn_of _ (by decide +kernel)) ggX9_takes_X9_copies
set_option maxRecDepth 20000 in
theorem ggX9_takes_X9_evenly : GoodIn wsX9_takes wsX9_evenly := goodIn_r _ [12, 13, 14, 15, 16, 7, 17, 18, 19, 20, 21, 22, 23, 24, 25, 26, 27, 3, 62, 63, 64, 65, 66, 67, 68, 69, 70, 71, 72, 73, 74, 75, 76, 77, 78, 79, 80, 81, 82, 83, 84, 85, 86, 87, 88, 89, 90, 91, 92, 93, 94, 95, 96, 97, 98, 99] (by decide +kernel) (by decide +kernel)
set_option maxRecDepth 20000 in
theorem gX9_takes_X9_evenly : GoodIn wsX9_takes (wsV RX9 98 RX9 yX9_evenly wsX9_evenly) := goodIn_app (goodIn_of _ (by decide +kernel)) ggX9_takes_X9_evenly
set_option maxRecDepth 20000 in
theorem ggX9_takes_X9_passesBy : GoodIn wsX9_takes wsX9_passesBy := goodIn_r _ [31, 32, 33, 34, 7, 35, 13, 36, 37, 22, 38, 23, 3, 39, 40, 41, 42, 43, 44, 45, 46, 47, 48, 49, 50, 51, 52, 53, 54, 55, 56, 57, 58, 59, 60, 61, 62, 63, 64, 65, 66, 67, 68, 69, 70, 71, 72, 73, 74, 75, 76, 77, 78, 79, 80, 81, 82, 83, 84, 85, 86, 87, 88, 89, 90, 91, 92, 93, 94, 95, 96, 97, 98, 99] (by decide +kernel) (by decide +kernel)
set_option maxRecDepth 20000 in
theorem gX9_takes_X9_passesBy : GoodIn wsX9_takes (wsV RX9 235 RX9 yX9_passesBy wsX9_passesBy) := goodIn_app (goodIn_of _ (by decide +kernel)) ggX9_takes_X9_passesBy
set_option maxRecDepth 20000 in
theorem ggX9_takes_X9_larger : GoodIn wsX9_takes wsX9_larger := goodIn_r _ [57] (by decide +kernel) (by decide +kernel)
set_option maxRecDepth 20000 in
theorem gX9_takes_X9_larger : GoodIn wsX9_takes (va_wsS RX9 198 yX9_larger wsX9_larger) := goodIn_app (goodIn_of _ (by decide +kernel)) ggX9_takes_X9_larger
theorem dX9_takes_0 : decode cX9_takes 0 = .ok (.iconst 0, 1) := by decide +kernel
theorem dX9_takes_1 : decode cX9_takes 1 = .ok (.istore_n 2, 1) := by decide +kernel
theorem dX9_takes_2 : decode cX9_takes 2 = .ok (.bipush (-99), 2) := by decide +kernel
theorem dX9_takes_4 : decode cX9_takes 4 = .ok (.istore_n 3, 1) := by decide +kernel
theorem dX9_takes_5 : decode cX9_takes 5 = .ok (.iconst 0, 1) := by decide +kernel
theorem dX9_takes_6 : decode cX9_takes 6 = .ok (.istore 4, 2) := by decide +kernel
theorem dX9_takes_8 : decode cX9_takes 8 = .ok (.iload 4, 2) := by decide +kernel
theorem dX9_takes_10 : decode cX9_takes 10 = .ok (.bipush 12, 2) := by decide +kernel
theorem dX9_takes_12 : decode cX9_takes 12 = .ok (.if_icmp .gt 122, 3) := by decide +kernel
theorem dX9_takes_15 : decode cX9_takes 15 = .ok (.aload_n 0, 1) := by decide +kernel
theorem dX9_takes_16 : decode cX9_takes 16 = .ok (.iconst 0, 1) := by decide +kernel
theorem dX9_takes_17 : decode cX9_takes 17 = .ok (.sipush 385, 3) := by decide +kernel
theorem dX9_takes_20 : decode cX9_takes 20 = .ok (.invokevirtual 175, 3) := by decide +kernel
theorem dX9_takes_23 : decode cX9_takes 23 = .ok (.iconst 0, 1) := by decide +kernel
theorem dX9_takes_24 : decode cX9_takes 24 = .ok (.istore 5, 2) := by decide +kernel
theorem dX9_takes_26 : decode cX9_takes 26 = .ok (.iload 5, 2) := by decide +kernel
theorem dX9_takes_28 : decode cX9_takes 28 = .ok (.aload_n 0, 1) := by decide +kernel
theorem dX9_takes_29 : decode cX9_takes 29 = .ok (.getfield 94, 3) := by decide +kernel
theorem dX9_takes_32 : decode cX9_takes 32 = .ok (.if_icmp .ge 35, 3) := by decide +kernel
theorem dX9_takes_35 : decode cX9_takes 35 = .ok (.aload_n 0, 1) := by decide +kernel
theorem dX9_takes_36 : decode cX9_takes 36 = .ok (.getfield 77, 3) := by decide +kernel
theorem dX9_takes_39 : decode cX9_takes 39 = .ok (.iload 5, 2) := by decide +kernel
theorem dX9_takes_41 : decode cX9_takes 41 = .ok (.iaload, 1) := by decide +kernel
theorem dX9_takes_42 : decode cX9_takes 42 = .ok (.ifCond .lt 19, 3) := by decide +kernel
theorem dX9_takes_45 : decode cX9_takes 45 = .ok (.aload_n 0, 1) := by decide +kernel
theorem dX9_takes_46 : decode cX9_takes 46 = .ok (.sipush 385, 3) := by decide +kernel
theorem dX9_takes_49 : decode cX9_takes 49 = .ok (.iload 5, 2) := by decide +kernel
theorem dX9_takes_51 : decode cX9_takes 51 = .ok (.aload_n 0, 1) := by decide +kernel
theorem dX9_takes_52 : decode cX9_takes 52 = .ok (.getfield 77, 3) := by decide +kernel
theorem dX9_takes_55 : decode cX9_takes 55 = .ok (.iload 5, 2) := by decide +kernel
theorem dX9_takes_57 : decode cX9_takes 57 = .ok (.iaload, 1) := by decide +kernel
theorem dX9_takes_58 : decode cX9_takes 58 = .ok (.invokevirtual 98, 3) := by decide +kernel
theorem dX9_takes_61 : decode cX9_takes 61 = .ok (.iinc 5 1, 3) := by decide +kernel
theorem dX9_takes_64 : decode cX9_takes 64 = .ok (.goto (-38), 3) := by decide +kernel
theorem dX9_takes_67 : decode cX9_takes 67 = .ok (.aload_n 0, 1) := by decide +kernel
theorem dX9_takes_68 : decode cX9_takes 68 = .ok (.sipush 385, 3) := by decide +kernel
theorem dX9_takes_71 : decode cX9_takes 71 = .ok (.iload_n 1, 1) := by decide +kernel
theorem dX9_takes_72 : decode cX9_takes 72 = .ok (.iload 4, 2) := by decide +kernel
theorem dX9_takes_74 : decode cX9_takes 74 = .ok (.invokevirtual 98, 3) := by decide +kernel
theorem dX9_takes_77 : decode cX9_takes 77 = .ok (.aload_n 0, 1) := by decide +kernel
theorem dX9_takes_78 : decode cX9_takes 78 = .ok (.sipush 385, 3) := by decide +kernel
theorem dX9_takes_81 : decode cX9_takes 81 = .ok (.bipush 7, 2) := by decide +kernel
theorem dX9_takes_83 : decode cX9_takes 83 = .ok (.invokevirtual 235, 3) := by decide +kernel
theorem dX9_takes_86 : decode cX9_takes 86 = .ok (.istore 5, 2) := by decide +kernel
theorem dX9_takes_88 : decode cX9_takes 88 = .ok (.aload_n 0, 1) := by decide +kernel
theorem dX9_takes_89 : decode cX9_takes 89 = .ok (.getfield 46, 3) := by decide +kernel
theorem dX9_takes_92 : decode cX9_takes 92 = .ok (.sipush 385, 3) := by decide +kernel
theorem dX9_takes_95 : decode cX9_takes 95 = .ok (.iload_n 1, 1) := by decide +kernel
theorem dX9_takes_96 : decode cX9_takes 96 = .ok (.iadd, 1) := by decide +kernel
theorem dX9_takes_97 : decode cX9_takes 97 = .ok (.iaload, 1) := by decide +kernel
theorem dX9_takes_98 : decode cX9_takes 98 = .ok (.iload 4, 2) := by decide +kernel
theorem dX9_takes_100 : decode cX9_takes 100 = .ok (.isub, 1) := by decide +kernel
theorem dX9_takes_101 : decode cX9_takes 101 = .ok (.istore 6, 2) := by decide +kernel
theorem dX9_takes_103 : decode cX9_takes 103 = .ok (.iload 5, 2) := by decide +kernel
theorem dX9_takes_105 : decode cX9_takes 105 = .ok (.ifCond .lt 14, 3) := by decide +kernel
theorem dX9_takes_108 : decode cX9_takes 108 = .ok (.iload 6, 2) := by decide +kernel
theorem dX9_takes_110 : decode cX9_takes 110 = .ok (.iload_n 3, 1) := by decide +kernel
theorem dX9_takes_111 : decode cX9_takes 111 = .ok (.if_icmp .le 8, 3) := by decide +kernel
theorem dX9_takes_114 : decode cX9_takes 114 = .ok (.iload 4, 2) := by decide +kernel
theorem dX9_takes_116 : decode cX9_takes 116 = .ok (.goto 4, 3) := by decide +kernel
theorem dX9_takes_119 : decode cX9_takes 119 = .ok (.iload_n 2, 1) := by decide +kernel
theorem dX9_takes_120 : decode cX9_takes 120 = .ok (.istore_n 2, 1) := by decide +kernel
theorem dX9_takes_121 : decode cX9_takes 121 = .ok (.iload_n 3, 1) := by decide +kernel
theorem dX9_takes_122 : decode cX9_takes 122 = .ok (.iload 6, 2) := by decide +kernel
theorem dX9_takes_124 : decode cX9_takes 124 = .ok (.invokestatic 198, 3) := by decide +kernel
theorem dX9_takes_127 : decode cX9_takes 127 = .ok (.istore_n 3, 1) := by decide +kernel
theorem dX9_takes_128 : decode cX9_takes 128 = .ok (.iinc 4 1, 3) := by decide +kernel
theorem dX9_takes_131 : decode cX9_takes 131 = .ok (.goto (-123), 3) := by decide +kernel
theorem dX9_takes_134 : decode cX9_takes 134 = .ok (.iload_n 2, 1) := by decide +kernel
theorem dX9_takes_135 : decode cX9_takes 135 = .ok (.ireturn, 1) := by decide +kernel
set_option maxRecDepth 20000 in
theorem ggX9_all_X9_isFamily : GoodIn wsX9_all wsX9_isFamily := goodIn_r _ [8, 1, 9, 10, 7, 11, 74, 75, 76, 77, 78, 79, 80, 81, 82, 83, 84, 85, 86, 87, 88, 89, 90, 91, 92, 93, 94, 95, 96, 97, 98, 99, 100, 101, 102, 103, 104, 105, 106, 107, 108, 109, 110, 111] (by decide +kernel) (by decide +kernel)
set_option maxRecDepth 20000 in
theorem gX9_all_X9_isFamily : GoodIn wsX9_all (wsV RX9 204 RX9 yX9_isFamily wsX9_isFamily) := goodIn_app (goodIn_of _ (by decide +kernel)) ggX9_all_X9_isFamily
set_option maxRecDepth 20000 in
theorem ggX9_all_X9_takes : GoodIn wsX9_all wsX9_takes := goodIn_r _ [15, 1, 2, 16, 17, 18, 19, 7, 20, 21, 22, 23, 24, 25, 26, 27, 28, 29, 30, 31, 32, 33, 34, 35, 36, 37, 38, 39, 40, 41, 42, 43, 44, 45, 46, 47, 48, 49, 50, 51, 52, 53, 54, 55, 56, 57, 58, 59, 60, 61, 62, 63, 64, 65, 66, 67, 68, 69, 70, 71, 72, 73, 74, 75, 76, 77, 78, 79, 80, 81, 82, 83, 84, 85, 86, 87, 88, 89, 90, 91, 92, 93, 94, 95, 96, 97, 98, 99, 100, 101, 102, 103, 104, 105, 106, 107, 108, 109, 110, 111] (by decide +kernel) (by decide +kernel)
set_option maxRecDepth 20000 in
theorem gX9_all_X9_takes : GoodIn wsX9_all (wsV RX9 260 RX9 yX9_takes wsX9_takes) := goodIn_app (goodIn_of _ (by decide +kernel)) ggX9_all_X9_takes
theorem dX9_all_0 : decode cX9_all 0 = .ok (.aload_n 0, 1) := by decide +kernel
theorem dX9_all_1 : decode cX9_all 1 = .ok (.iload_n 1, 1) := by decide +kernel
theorem dX9_all_2 : decode cX9_all 2 = .ok (.invokevirtual 204, 3) := by decide +kernel
theorem dX9_all_5 : decode cX9_all 5 = .ok (.ifCond .ne 5, 3) := by decide +kernel
theorem dX9_all_8 : decode cX9_all 8 = .ok (.iconst (-1), 1) := by decide +kernel
theorem dX9_all_9 : decode cX9_all 9 = .ok (.ireturn, 1) := by decide +kernel
theorem dX9_all_10 : decode cX9_all 10 = .ok (.iconst 0, 1) := by decide +kernel
theorem dX9_all_11 : decode cX9_all 11 = .ok (.istore_n 2, 1) := by decide +kernel
theorem dX9_all_12 : decode cX9_all 12 = .ok (.iload_n 2, 1) := by decide +kernel
theorem dX9_all_13 : decode cX9_all 13 = .ok (.aload_n 0, 1) := by decide +kernel
theorem dX9_all_14 : decode cX9_all 14 = .ok (.getfield 94, 3) := by decide +kernel
theorem dX9_all_17 : decode cX9_all 17 = .ok (.if_icmp .ge 16, 3) := by decide +kernel
theorem dX9_all_20 : decode cX9_all 20 = .ok (.aload_n 0, 1) := by decide +kernel
theorem dX9_all_21 : decode cX9_all 21 = .ok (.getfield 77, 3) := by decide +kernel
theorem dX9_all_24 : decode cX9_all 24 = .ok (.iload_n 2, 1) := by decide +kernel
theorem dX9_all_25 : decode cX9_all 25 = .ok (.iconst (-1), 1) := by decide +kernel
theorem dX9_all_26 : decode cX9_all 26 = .ok (.iastore, 1) := by decide +kernel
theorem dX9_all_27 : decode cX9_all 27 = .ok (.iinc 2 1, 3) := by decide +kernel
theorem dX9_all_30 : decode cX9_all 30 = .ok (.goto (-18), 3) := by decide +kernel
theorem dX9_all_33 : decode cX9_all 33 = .ok (.iconst 0, 1) := by decide +kernel
theorem dX9_all_34 : decode cX9_all 34 = .ok (.istore_n 2, 1) := by decide +kernel
theorem dX9_all_35 : decode cX9_all 35 = .ok (.iload_n 2, 1) := by decide +kernel
theorem dX9_all_36 : decode cX9_all 36 = .ok (.bipush 20, 2) := by decide +kernel
theorem dX9_all_38 : decode cX9_all 38 = .ok (.if_icmp .ge 104, 3) := by decide +kernel
theorem dX9_all_41 : decode cX9_all 41 = .ok (.iconst 1, 1) := by decide +kernel
theorem dX9_all_42 : decode cX9_all 42 = .ok (.istore_n 3, 1) := by decide +kernel
theorem dX9_all_43 : decode cX9_all 43 = .ok (.iconst 0, 1) := by decide +kernel
theorem dX9_all_44 : decode cX9_all 44 = .ok (.istore 4, 2) := by decide +kernel
theorem dX9_all_46 : decode cX9_all 46 = .ok (.iload 4, 2) := by decide +kernel
theorem dX9_all_48 : decode cX9_all 48 = .ok (.aload_n 0, 1) := by decide +kernel
theorem dX9_all_49 : decode cX9_all 49 = .ok (.getfield 94, 3) := by decide +kernel
theorem dX9_all_52 : decode cX9_all 52 = .ok (.if_icmp .ge 73, 3) := by decide +kernel
theorem dX9_all_55 : decode cX9_all 55 = .ok (.aload_n 0, 1) := by decide +kernel
theorem dX9_all_56 : decode cX9_all 56 = .ok (.getfield 77, 3) := by decide +kernel
theorem dX9_all_59 : decode cX9_all 59 = .ok (.iload 4, 2) := by decide +kernel
theorem dX9_all_61 : decode cX9_all 61 = .ok (.iaload, 1) := by decide +kernel
theorem dX9_all_62 : decode cX9_all 62 = .ok (.ifCond .ge 13, 3) := by decide +kernel
theorem dX9_all_65 : decode cX9_all 65 = .ok (.aload_n 0, 1) := by decide +kernel
theorem dX9_all_66 : decode cX9_all 66 = .ok (.getfield 13, 3) := by decide +kernel
theorem dX9_all_69 : decode cX9_all 69 = .ok (.iload 4, 2) := by decide +kernel
theorem dX9_all_71 : decode cX9_all 71 = .ok (.iaload, 1) := by decide +kernel
theorem dX9_all_72 : decode cX9_all 72 = .ok (.goto 10, 3) := by decide +kernel
theorem dX9_all_75 : decode cX9_all 75 = .ok (.aload_n 0, 1) := by decide +kernel
theorem dX9_all_76 : decode cX9_all 76 = .ok (.getfield 77, 3) := by decide +kernel
theorem dX9_all_79 : decode cX9_all 79 = .ok (.iload 4, 2) := by decide +kernel
theorem dX9_all_81 : decode cX9_all 81 = .ok (.iaload, 1) := by decide +kernel
theorem dX9_all_82 : decode cX9_all 82 = .ok (.istore 5, 2) := by decide +kernel
theorem dX9_all_84 : decode cX9_all 84 = .ok (.aload_n 0, 1) := by decide +kernel
theorem dX9_all_85 : decode cX9_all 85 = .ok (.getfield 77, 3) := by decide +kernel
theorem dX9_all_88 : decode cX9_all 88 = .ok (.iload 4, 2) := by decide +kernel
theorem dX9_all_90 : decode cX9_all 90 = .ok (.aload_n 0, 1) := by decide +kernel
theorem dX9_all_91 : decode cX9_all 91 = .ok (.iload 4, 2) := by decide +kernel
theorem dX9_all_93 : decode cX9_all 93 = .ok (.invokevirtual 260, 3) := by decide +kernel
theorem dX9_all_96 : decode cX9_all 96 = .ok (.iastore, 1) := by decide +kernel
theorem dX9_all_97 : decode cX9_all 97 = .ok (.iload_n 3, 1) := by decide +kernel
theorem dX9_all_98 : decode cX9_all 98 = .ok (.ifCond .eq 19, 3) := by decide +kernel
theorem dX9_all_101 : decode cX9_all 101 = .ok (.aload_n 0, 1) := by decide +kernel
theorem dX9_all_102 : decode cX9_all 102 = .ok (.getfield 77, 3) := by decide +kernel
theorem dX9_all_105 : decode cX9_all 105 = .ok (.iload 4, 2) := by decide +kernel
theorem dX9_all_107 : decode cX9_all 107 = .ok (.iaload, 1) := by decide +kernel
theorem dX9_all_108 : decode cX9_all 108 = .ok (.iload 5, 2) := by decide +kernel
theorem dX9_all_110 : decode cX9_all 110 = .ok (.if_icmp .ne 7, 3) := by decide +kernel
theorem dX9_all_113 : decode cX9_all 113 = .ok (.iconst 1, 1) := by decide +kernel
theorem dX9_all_114 : decode cX9_all 114 = .ok (.goto 4, 3) := by decide +kernel
theorem dX9_all_117 : decode cX9_all 117 = .ok (.iconst 0, 1) := by decide +kernel
theorem dX9_all_118 : decode cX9_all 118 = .ok (.istore_n 3, 1) := by decide +kernel
theorem dX9_all_119 : decode cX9_all 119 = .ok (.iinc 4 1, 3) := by decide +kernel
theorem dX9_all_122 : decode cX9_all 122 = .ok (.goto (-76), 3) := by decide +kernel
theorem dX9_all_125 : decode cX9_all 125 = .ok (.iload_n 3, 1) := by decide +kernel
theorem dX9_all_126 : decode cX9_all 126 = .ok (.ifCond .eq 10, 3) := by decide +kernel
theorem dX9_all_129 : decode cX9_all 129 = .ok (.aload_n 0, 1) := by decide +kernel
theorem dX9_all_130 : decode cX9_all 130 = .ok (.getfield 77, 3) := by decide +kernel
theorem dX9_all_133 : decode cX9_all 133 = .ok (.iload_n 1, 1) := by decide +kernel
theorem dX9_all_134 : decode cX9_all 134 = .ok (.iaload, 1) := by decide +kernel
theorem dX9_all_135 : decode cX9_all 135 = .ok (.ireturn, 1) := by decide +kernel
theorem dX9_all_136 : decode cX9_all 136 = .ok (.iinc 2 1, 3) := by decide +kernel
theorem dX9_all_139 : decode cX9_all 139 = .ok (.goto (-104), 3) := by decide +kernel
theorem dX9_all_142 : decode cX9_all 142 = .ok (.bipush (-4), 2) := by decide +kernel
theorem dX9_all_144 : decode cX9_all 144 = .ok (.ireturn, 1) := by decide +kernel
set_option maxRecDepth 20000 in
theorem ggX9_see_X9_isWall : GoodIn wsX9_see wsX9_isWall := goodIn_r _ [11, 12, 13, 14, 10, 15, 16, 17, 18, 19, 20, 21, 22, 23, 24, 25, 26, 27, 28, 29, 30, 31, 32, 33, 34, 35, 36, 37, 38, 39, 40, 41, 42, 43, 44, 45, 46, 47, 48, 49, 50, 51, 52, 53] (by decide +kernel) (by decide +kernel)
set_option maxRecDepth 20000 in
theorem gX9_see_X9_isWall : GoodIn wsX9_see (wsV RX9 212 RX9 yX9_isWall wsX9_isWall) := goodIn_app (goodIn_of _ (by decide +kernel)) ggX9_see_X9_isWall
set_option maxRecDepth 20000 in
theorem ggX9_see_X9_in : GoodIn wsX9_see wsX9_in := goodIn_r _ [15] (by decide +kernel) (by decide +kernel)
set_option maxRecDepth 20000 in
theorem gX9_see_X9_in : GoodIn wsX9_see (va_wsS RX9 117 yX9_in wsX9_in) := goodIn_app (goodIn_of _ (by decide +kernel)) ggX9_see_X9_in
theorem dX9_see_0 : decode cX9_see 0 = .ok (.aload_n 0, 1) := by decide +kernel
theorem dX9_see_1 : decode cX9_see 1 = .ok (.iload_n 1, 1) := by decide +kernel
theorem dX9_see_2 : decode cX9_see 2 = .ok (.invokevirtual 212, 3) := by decide +kernel
theorem dX9_see_5 : decode cX9_see 5 = .ok (.ifCond .eq 27, 3) := by decide +kernel
theorem dX9_see_8 : decode cX9_see 8 = .ok (.iload_n 2, 1) := by decide +kernel
theorem dX9_see_9 : decode cX9_see 9 = .ok (.i2l, 1) := by decide +kernel
theorem dX9_see_10 : decode cX9_see 10 = .ok (.lconst 0, 1) := by decide +kernel
theorem dX9_see_11 : decode cX9_see 11 = .ok (.ldc2_w 263, 3) := by decide +kernel
theorem dX9_see_14 : decode cX9_see 14 = .ok (.invokestatic 117, 3) := by decide +kernel
theorem dX9_see_17 : decode cX9_see 17 = .ok (.ifCond .eq 15, 3) := by decide +kernel
theorem dX9_see_20 : decode cX9_see 20 = .ok (.iload_n 3, 1) := by decide +kernel
theorem dX9_see_21 : decode cX9_see 21 = .ok (.i2l, 1) := by decide +kernel
theorem dX9_see_22 : decode cX9_see 22 = .ok (.lconst 1, 1) := by decide +kernel
theorem dX9_see_23 : decode cX9_see 23 = .ok (.ldc2_w 230, 3) := by decide +kernel
theorem dX9_see_26 : decode cX9_see 26 = .ok (.invokestatic 117, 3) := by decide +kernel
theorem dX9_see_29 : decode cX9_see 29 = .ok (.ifCond .ne 5, 3) := by decide +kernel
theorem dX9_see_32 : decode cX9_see 32 = .ok (.iconst (-1), 1) := by decide +kernel
theorem dX9_see_33 : decode cX9_see 33 = .ok (.ireturn, 1) := by decide +kernel
theorem dX9_see_34 : decode cX9_see 34 = .ok (.aload_n 0, 1) := by decide +kernel
theorem dX9_see_35 : decode cX9_see 35 = .ok (.getfield 184, 3) := by decide +kernel
theorem dX9_see_38 : decode cX9_see 38 = .ok (.bipush 6, 2) := by decide +kernel
theorem dX9_see_40 : decode cX9_see 40 = .ok (.if_icmp .ne 6, 3) := by decide +kernel
theorem dX9_see_43 : decode cX9_see 43 = .ok (.bipush (-3), 2) := by decide +kernel
theorem dX9_see_45 : decode cX9_see 45 = .ok (.ireturn, 1) := by decide +kernel
theorem dX9_see_46 : decode cX9_see 46 = .ok (.aload_n 0, 1) := by decide +kernel
theorem dX9_see_47 : decode cX9_see 47 = .ok (.getfield 53, 3) := by decide +kernel
theorem dX9_see_50 : decode cX9_see 50 = .ok (.aload_n 0, 1) := by decide +kernel
theorem dX9_see_51 : decode cX9_see 51 = .ok (.getfield 184, 3) := by decide +kernel
theorem dX9_see_54 : decode cX9_see 54 = .ok (.iload_n 1, 1) := by decide +kernel
theorem dX9_see_55 : decode cX9_see 55 = .ok (.iastore, 1) := by decide +kernel
theorem dX9_see_56 : decode cX9_see 56 = .ok (.aload_n 0, 1) := by decide +kernel
theorem dX9_see_57 : decode cX9_see 57 = .ok (.getfield 56, 3) := by decide +kernel
theorem dX9_see_60 : decode cX9_see 60 = .ok (.aload_n 0, 1) := by decide +kernel
theorem dX9_see_61 : decode cX9_see 61 = .ok (.getfield 184, 3) := by decide +kernel
theorem dX9_see_64 : decode cX9_see 64 = .ok (.iload_n 2, 1) := by decide +kernel
theorem dX9_see_65 : decode cX9_see 65 = .ok (.bipush 50, 2) := by decide +kernel
theorem dX9_see_67 : decode cX9_see 67 = .ok (.isub, 1) := by decide +kernel
theorem dX9_see_68 : decode cX9_see 68 = .ok (.iastore, 1) := by decide +kernel
theorem dX9_see_69 : decode cX9_see 69 = .ok (.aload_n 0, 1) := by decide +kernel
theorem dX9_see_70 : decode cX9_see 70 = .ok (.getfield 59, 3) := by decide +kernel
theorem dX9_see_73 : decode cX9_see 73 = .ok (.aload_n 0, 1) := by decide +kernel
theorem dX9_see_74 : decode cX9_see 74 = .ok (.getfield 184, 3) := by decide +kernel
theorem dX9_see_77 : decode cX9_see 77 = .ok (.iload_n 3, 1) := by decide +kernel
theorem dX9_see_78 : decode cX9_see 78 = .ok (.iastore, 1) := by decide +kernel
theorem dX9_see_79 : decode cX9_see 79 = .ok (.aload_n 0, 1) := by decide +kernel
theorem dX9_see_80 : decode cX9_see 80 = .ok (.dup, 1) := by decide +kernel
theorem dX9_see_81 : decode cX9_see 81 = .ok (.getfield 184, 3) := by decide +kernel
theorem dX9_see_84 : decode cX9_see 84 = .ok (.iconst 1, 1) := by decide +kernel
theorem dX9_see_85 : decode cX9_see 85 = .ok (.iadd, 1) := by decide +kernel
theorem dX9_see_86 : decode cX9_see 86 = .ok (.putfield 184, 3) := by decide +kernel
theorem dX9_see_89 : decode cX9_see 89 = .ok (.aload_n 0, 1) := by decide +kernel
theorem dX9_see_90 : decode cX9_see 90 = .ok (.getfield 184, 3) := by decide +kernel
theorem dX9_see_93 : decode cX9_see 93 = .ok (.ireturn, 1) := by decide +kernel
theorem dX9_forget_0 : decode cX9_forget 0 = .ok (.aload_n 0, 1) := by decide +kernel
theorem dX9_forget_1 : decode cX9_forget 1 = .ok (.getfield 184, 3) := by decide +kernel
theorem dX9_forget_4 : decode cX9_forget 4 = .ok (.istore_n 1, 1) := by decide +kernel
theorem dX9_forget_5 : decode cX9_forget 5 = .ok (.aload_n 0, 1) := by decide +kernel
theorem dX9_forget_6 : decode cX9_forget 6 = .ok (.iconst 0, 1) := by decide +kernel
theorem dX9_forget_7 : decode cX9_forget 7 = .ok (.putfield 184, 3) := by decide +kernel
theorem dX9_forget_10 : decode cX9_forget 10 = .ok (.iload_n 1, 1) := by decide +kernel
theorem dX9_forget_11 : decode cX9_forget 11 = .ok (.ireturn, 1) := by decide +kernel
set_option maxRecDepth 20000 in
theorem ggX9_isSo_X9_passes : GoodIn wsX9_isSo wsX9_passes := goodIn_r _ [10, 11, 12, 13, 14, 15, 16, 3, 17, 18, 9, 19, 20, 21, 22, 23, 24, 25, 26, 27, 28, 29, 30, 31, 32, 33, 34, 35, 36, 37, 38, 39, 40, 41, 42, 43, 44, 45, 46, 47, 48, 49, 50, 51, 52, 53, 54, 55, 56, 57, 58, 59, 60, 61, 62, 63, 64, 65, 66, 67, 68, 69, 70, 71, 72, 73, 74, 75, 76, 77] (by decide +kernel) (by decide +kernel)
set_option maxRecDepth 20000 in
theorem gX9_isSo_X9_passes : GoodIn wsX9_isSo (wsV RX9 227 RX9 yX9_passes wsX9_passes) := goodIn_app (goodIn_of _ (by decide +kernel)) ggX9_isSo_X9_passes
theorem dX9_isSo_0 : decode cX9_isSo 0 = .ok (.iconst 1, 1) := by decide +kernel
theorem dX9_isSo_1 : decode cX9_isSo 1 = .ok (.istore_n 1, 1) := by decide +kernel
theorem dX9_isSo_2 : decode cX9_isSo 2 = .ok (.iconst 0, 1) := by decide +kernel
theorem dX9_isSo_3 : decode cX9_isSo 3 = .ok (.istore_n 2, 1) := by decide +kernel
theorem dX9_isSo_4 : decode cX9_isSo 4 = .ok (.iconst 1, 1) := by decide +kernel
theorem dX9_isSo_5 : decode cX9_isSo 5 = .ok (.istore_n 3, 1) := by decide +kernel
theorem dX9_isSo_6 : decode cX9_isSo 6 = .ok (.iload_n 3, 1) := by decide +kernel
theorem dX9_isSo_7 : decode cX9_isSo 7 = .ok (.bipush 30, 2) := by decide +kernel
theorem dX9_isSo_9 : decode cX9_isSo 9 = .ok (.if_icmp .gt 88, 3) := by decide +kernel
theorem dX9_isSo_12 : decode cX9_isSo 12 = .ok (.iload_n 2, 1) := by decide +kernel
theorem dX9_isSo_13 : decode cX9_isSo 13 = .ok (.aload_n 0, 1) := by decide +kernel
theorem dX9_isSo_14 : decode cX9_isSo 14 = .ok (.sipush 385, 3) := by decide +kernel
theorem dX9_isSo_17 : decode cX9_isSo 17 = .ok (.invokevirtual 227, 3) := by decide +kernel
theorem dX9_isSo_20 : decode cX9_isSo 20 = .ok (.iadd, 1) := by decide +kernel
theorem dX9_isSo_21 : decode cX9_isSo 21 = .ok (.istore_n 2, 1) := by decide +kernel
theorem dX9_isSo_22 : decode cX9_isSo 22 = .ok (.iconst 0, 1) := by decide +kernel
theorem dX9_isSo_23 : decode cX9_isSo 23 = .ok (.istore 4, 2) := by decide +kernel
theorem dX9_isSo_25 : decode cX9_isSo 25 = .ok (.iload 4, 2) := by decide +kernel
theorem dX9_isSo_27 : decode cX9_isSo 27 = .ok (.aload_n 0, 1) := by decide +kernel
theorem dX9_isSo_28 : decode cX9_isSo 28 = .ok (.getfield 184, 3) := by decide +kernel
theorem dX9_isSo_31 : decode cX9_isSo 31 = .ok (.if_icmp .ge 60, 3) := by decide +kernel
theorem dX9_isSo_34 : decode cX9_isSo 34 = .ok (.iload_n 1, 1) := by decide +kernel
theorem dX9_isSo_35 : decode cX9_isSo 35 = .ok (.ifCond .eq 48, 3) := by decide +kernel
theorem dX9_isSo_38 : decode cX9_isSo 38 = .ok (.iload_n 2, 1) := by decide +kernel
theorem dX9_isSo_39 : decode cX9_isSo 39 = .ok (.ifCond .lt 44, 3) := by decide +kernel
theorem dX9_isSo_42 : decode cX9_isSo 42 = .ok (.aload_n 0, 1) := by decide +kernel
theorem dX9_isSo_43 : decode cX9_isSo 43 = .ok (.getfield 59, 3) := by decide +kernel
theorem dX9_isSo_46 : decode cX9_isSo 46 = .ok (.iload 4, 2) := by decide +kernel
theorem dX9_isSo_48 : decode cX9_isSo 48 = .ok (.iaload, 1) := by decide +kernel
theorem dX9_isSo_49 : decode cX9_isSo 49 = .ok (.iload_n 3, 1) := by decide +kernel
theorem dX9_isSo_50 : decode cX9_isSo 50 = .ok (.if_icmp .ne 29, 3) := by decide +kernel
theorem dX9_isSo_53 : decode cX9_isSo 53 = .ok (.aload_n 0, 1) := by decide +kernel
theorem dX9_isSo_54 : decode cX9_isSo 54 = .ok (.getfield 46, 3) := by decide +kernel
theorem dX9_isSo_57 : decode cX9_isSo 57 = .ok (.sipush 391, 3) := by decide +kernel
theorem dX9_isSo_60 : decode cX9_isSo 60 = .ok (.aload_n 0, 1) := by decide +kernel
theorem dX9_isSo_61 : decode cX9_isSo 61 = .ok (.getfield 53, 3) := by decide +kernel
theorem dX9_isSo_64 : decode cX9_isSo 64 = .ok (.iload 4, 2) := by decide +kernel
theorem dX9_isSo_66 : decode cX9_isSo 66 = .ok (.iaload, 1) := by decide +kernel
theorem dX9_isSo_67 : decode cX9_isSo 67 = .ok (.iadd, 1) := by decide +kernel
theorem dX9_isSo_68 : decode cX9_isSo 68 = .ok (.iaload, 1) := by decide +kernel
theorem dX9_isSo_69 : decode cX9_isSo 69 = .ok (.aload_n 0, 1) := by decide +kernel
theorem dX9_isSo_70 : decode cX9_isSo 70 = .ok (.getfield 56, 3) := by decide +kernel
theorem dX9_isSo_73 : decode cX9_isSo 73 = .ok (.iload 4, 2) := by decide +kernel
theorem dX9_isSo_75 : decode cX9_isSo 75 = .ok (.iaload, 1) := by decide +kernel
theorem dX9_isSo_76 : decode cX9_isSo 76 = .ok (.if_icmp .ne 7, 3) := by decide +kernel
theorem dX9_isSo_79 : decode cX9_isSo 79 = .ok (.iconst 1, 1) := by decide +kernel
theorem dX9_isSo_80 : decode cX9_isSo 80 = .ok (.goto 4, 3) := by decide +kernel
theorem dX9_isSo_83 : decode cX9_isSo 83 = .ok (.iconst 0, 1) := by decide +kernel
theorem dX9_isSo_84 : decode cX9_isSo 84 = .ok (.istore_n 1, 1) := by decide +kernel
theorem dX9_isSo_85 : decode cX9_isSo 85 = .ok (.iinc 4 1, 3) := by decide +kernel
theorem dX9_isSo_88 : decode cX9_isSo 88 = .ok (.goto (-63), 3) := by decide +kernel
theorem dX9_isSo_91 : decode cX9_isSo 91 = .ok (.iinc 3 1, 3) := by decide +kernel
theorem dX9_isSo_94 : decode cX9_isSo 94 = .ok (.goto (-88), 3) := by decide +kernel
theorem dX9_isSo_97 : decode cX9_isSo 97 = .ok (.iload_n 1, 1) := by decide +kernel
theorem dX9_isSo_98 : decode cX9_isSo 98 = .ok (.ireturn, 1) := by decide +kernel
set_option maxRecDepth 20000 in
theorem ggX9_whoSick_X9_copies : GoodIn wsX9_whoSick wsX9_copies := goodIn_r _ [7, 2, 49, 50, 51, 52, 53, 54, 55, 56, 57, 58, 59, 60, 61, 62, 63, 64, 65, 66, 67, 68, 69, 70, 71, 72, 73, 74, 75, 76, 77, 78, 79, 80, 81, 82, 83, 84, 85, 86] (by decide +kernel) (by decide +kernel)
set_option maxRecDepth 20000 in
theorem gX9_whoSick_X9_copies : GoodIn wsX9_whoSick (wsV RX9 175 RX9 yX9_copies wsX9_copies) := goodIn_app (goodIn_of _ (by decide +kernel)) ggX9_whoSick_X9_copies
set_option maxRecDepth 20000 in
theorem ggX9_whoSick_X9_isSo : GoodIn wsX9_whoSick wsX9_isSo := goodIn_r _ [11, 12, 13, 2, 14, 15, 16, 17, 18, 6, 19, 20, 21, 22, 23, 24, 25, 26, 27, 28, 29, 30, 31, 32, 33, 34, 35, 36, 37, 38, 39, 40, 41, 42, 43, 44, 45, 46, 47, 48, 49, 50, 51, 52, 53, 54, 55, 56, 57, 58, 59, 60, 61, 62, 63, 64, 65, 66, 67, 68, 69, 70, 71, 72, 73, 74, 75, 76, 77, 78, 79, 80, 81, 82, 83, 84, 85, 86] (by decide +kernel) (by decide +kernel)
set_option maxRecDepth 20000 in
theorem gX9_whoSick_X9_isSo : GoodIn wsX9_whoSick (wsV RX9 265 RX9 yX9_isSo wsX9_isSo) := goodIn_app (goodIn_of _ (by decide +kernel)) ggX9_whoSick_X9_isSo
theorem dX9_whoSick_0 : decode cX9_whoSick 0 = .ok (.aload_n 0, 1) := by decide +kernel
theorem dX9_whoSick_1 : decode cX9_whoSick 1 = .ok (.iconst 0, 1) := by decide +kernel
theorem dX9_whoSick_2 : decode cX9_whoSick 2 = .ok (.sipush 385, 3) := by decide +kernel
theorem dX9_whoSick_5 : decode cX9_whoSick 5 = .ok (.invokevirtual 175, 3) := by decide +kernel
theorem dX9_whoSick_8 : decode cX9_whoSick 8 = .ok (.aload_n 0, 1) := by decide +kernel
theorem dX9_whoSick_9 : decode cX9_whoSick 9 = .ok (.invokevirtual 265, 3) := by decide +kernel
theorem dX9_whoSick_12 : decode cX9_whoSick 12 = .ok (.ifCond .eq 8, 3) := by decide +kernel
theorem dX9_whoSick_15 : decode cX9_whoSick 15 = .ok (.bipush 64, 2) := by decide +kernel
theorem dX9_whoSick_17 : decode cX9_whoSick 17 = .ok (.goto 4, 3) := by decide +kernel
theorem dX9_whoSick_20 : decode cX9_whoSick 20 = .ok (.iconst 0, 1) := by decide +kernel
theorem dX9_whoSick_21 : decode cX9_whoSick 21 = .ok (.istore_n 1, 1) := by decide +kernel
theorem dX9_whoSick_22 : decode cX9_whoSick 22 = .ok (.iconst 0, 1) := by decide +kernel
theorem dX9_whoSick_23 : decode cX9_whoSick 23 = .ok (.istore_n 2, 1) := by decide +kernel
theorem dX9_whoSick_24 : decode cX9_whoSick 24 = .ok (.iload_n 2, 1) := by decide +kernel
theorem dX9_whoSick_25 : decode cX9_whoSick 25 = .ok (.aload_n 0, 1) := by decide +kernel
theorem dX9_whoSick_26 : decode cX9_whoSick 26 = .ok (.getfield 94, 3) := by decide +kernel
theorem dX9_whoSick_29 : decode cX9_whoSick 29 = .ok (.if_icmp .ge 48, 3) := by decide +kernel
theorem dX9_whoSick_32 : decode cX9_whoSick 32 = .ok (.aload_n 0, 1) := by decide +kernel
theorem dX9_whoSick_33 : decode cX9_whoSick 33 = .ok (.iconst 0, 1) := by decide +kernel
theorem dX9_whoSick_34 : decode cX9_whoSick 34 = .ok (.sipush 385, 3) := by decide +kernel
theorem dX9_whoSick_37 : decode cX9_whoSick 37 = .ok (.invokevirtual 175, 3) := by decide +kernel
theorem dX9_whoSick_40 : decode cX9_whoSick 40 = .ok (.aload_n 0, 1) := by decide +kernel
theorem dX9_whoSick_41 : decode cX9_whoSick 41 = .ok (.getfield 46, 3) := by decide +kernel
theorem dX9_whoSick_44 : decode cX9_whoSick 44 = .ok (.sipush 418, 3) := by decide +kernel
theorem dX9_whoSick_47 : decode cX9_whoSick 47 = .ok (.dup2, 1) := by decide +kernel
theorem dX9_whoSick_48 : decode cX9_whoSick 48 = .ok (.iaload, 1) := by decide +kernel
theorem dX9_whoSick_49 : decode cX9_whoSick 49 = .ok (.iconst 1, 1) := by decide +kernel
theorem dX9_whoSick_50 : decode cX9_whoSick 50 = .ok (.iload_n 2, 1) := by decide +kernel
theorem dX9_whoSick_51 : decode cX9_whoSick 51 = .ok (.ishl, 1) := by decide +kernel
theorem dX9_whoSick_52 : decode cX9_whoSick 52 = .ok (.ixor, 1) := by decide +kernel
theorem dX9_whoSick_53 : decode cX9_whoSick 53 = .ok (.iastore, 1) := by decide +kernel
theorem dX9_whoSick_54 : decode cX9_whoSick 54 = .ok (.iload_n 1, 1) := by decide +kernel
theorem dX9_whoSick_55 : decode cX9_whoSick 55 = .ok (.aload_n 0, 1) := by decide +kernel
theorem dX9_whoSick_56 : decode cX9_whoSick 56 = .ok (.invokevirtual 265, 3) := by decide +kernel
theorem dX9_whoSick_59 : decode cX9_whoSick 59 = .ok (.ifCond .eq 9, 3) := by decide +kernel
theorem dX9_whoSick_62 : decode cX9_whoSick 62 = .ok (.iconst 1, 1) := by decide +kernel
theorem dX9_whoSick_63 : decode cX9_whoSick 63 = .ok (.iload_n 2, 1) := by decide +kernel
theorem dX9_whoSick_64 : decode cX9_whoSick 64 = .ok (.ishl, 1) := by decide +kernel
theorem dX9_whoSick_65 : decode cX9_whoSick 65 = .ok (.goto 4, 3) := by decide +kernel
theorem dX9_whoSick_68 : decode cX9_whoSick 68 = .ok (.iconst 0, 1) := by decide +kernel
theorem dX9_whoSick_69 : decode cX9_whoSick 69 = .ok (.ior, 1) := by decide +kernel
theorem dX9_whoSick_70 : decode cX9_whoSick 70 = .ok (.istore_n 1, 1) := by decide +kernel
theorem dX9_whoSick_71 : decode cX9_whoSick 71 = .ok (.iinc 2 1, 3) := by decide +kernel
theorem dX9_whoSick_74 : decode cX9_whoSick 74 = .ok (.goto (-50), 3) := by decide +kernel
theorem dX9_whoSick_77 : decode cX9_whoSick 77 = .ok (.iload_n 1, 1) := by decide +kernel
theorem dX9_whoSick_78 : decode cX9_whoSick 78 = .ok (.ireturn, 1) := by decide +kernel
set_option maxRecDepth 20000 in
theorem ggX9_kinds_X9_isFamily : GoodIn wsX9_kinds wsX9_isFamily := goodIn_r _ [6, 7, 8, 9, 5, 10, 56, 57, 58, 59, 60, 61, 62, 63, 64, 65, 66, 67, 68, 69, 70, 71, 72, 73, 74, 75, 76, 77, 78, 79, 80, 81, 82, 83, 84, 85, 86, 87, 88, 89, 90, 91, 92, 93] (by decide +kernel) (by decide +kernel)
set_option maxRecDepth 20000 in
theorem gX9_kinds_X9_isFamily : GoodIn wsX9_kinds (wsV RX9 204 RX9 yX9_isFamily wsX9_isFamily) := goodIn_app (goodIn_of _ (by decide +kernel)) ggX9_kinds_X9_isFamily
set_option maxRecDepth 20000 in
theorem ggX9_kinds_X9_copies : GoodIn wsX9_kinds wsX9_copies := goodIn_r _ [14, 15, 56, 57, 58, 59, 60, 61, 62, 63, 64, 65, 66, 67, 68, 69, 70, 71, 72, 73, 74, 75, 76, 77, 78, 79, 80, 81, 82, 83, 84, 85, 86, 87, 88, 89, 90, 91, 92, 93] (by decide +kernel) (by decide +kernel)
set_option maxRecDepth 20000 in
theorem gX9_kinds_X9_copies : GoodIn wsX9_kinds (wsV RX9 175 RX9 yX9_copies wsX9_copies) := goodIn_app (goodIn_of _ (by decide +kernel)) ggX9_kinds_X9_copies
set_option maxRecDepth 20000 in
theorem ggX9_kinds_X9_isSo : GoodIn wsX9_kinds wsX9_isSo := goodIn_r _ [19, 20, 21, 15, 22, 23, 24, 25, 26, 5, 27, 28, 29, 30, 31, 32, 33, 34, 35, 36, 37, 38, 39, 40, 1, 41, 42, 43, 44, 45, 46, 47, 48, 49, 50, 51, 52, 53, 54, 55, 56, 57, 58, 59, 60, 61, 62, 63, 64, 65, 66, 67, 68, 69, 70, 71, 72, 73, 74, 75, 76, 77, 78, 79, 80, 81, 82, 83, 84, 85, 86, 87, 88, 89, 90, 91, 92, 93] (by decide +kernel) (by decide +kernel)
set_option maxRecDepth 20000 in
theorem gX9_kinds_X9_isSo : GoodIn wsX9_kinds (wsV RX9 265 RX9 yX9_isSo wsX9_isSo) := goodIn_app (goodIn_of _ (by decide +kernel)) ggX9_kinds_X9_isSo
theorem dX9_kinds_0 : decode cX9_kinds 0 = .ok (.aload_n 0, 1) := by decide +kernel
theorem dX9_kinds_1 : decode cX9_kinds 1 = .ok (.iload_n 1, 1) := by decide +kernel
theorem dX9_kinds_2 : decode cX9_kinds 2 = .ok (.invokevirtual 204, 3) := by decide +kernel
theorem dX9_kinds_5 : decode cX9_kinds 5 = .ok (.ifCond .ne 5, 3) := by decide +kernel
theorem dX9_kinds_8 : decode cX9_kinds 8 = .ok (.iconst (-1), 1) := by decide +kernel
theorem dX9_kinds_9 : decode cX9_kinds 9 = .ok (.ireturn, 1) := by decide +kernel
theorem dX9_kinds_10 : decode cX9_kinds 10 = .ok (.aload_n 0, 1) := by decide +kernel
theorem dX9_kinds_11 : decode cX9_kinds 11 = .ok (.getfield 7, 3) := by decide +kernel
theorem dX9_kinds_14 : decode cX9_kinds 14 = .ok (.iload_n 1, 1) := by decide +kernel
theorem dX9_kinds_15 : decode cX9_kinds 15 = .ok (.iaload, 1) := by decide +kernel
theorem dX9_kinds_16 : decode cX9_kinds 16 = .ok (.istore_n 2, 1) := by decide +kernel
theorem dX9_kinds_17 : decode cX9_kinds 17 = .ok (.iconst 0, 1) := by decide +kernel
theorem dX9_kinds_18 : decode cX9_kinds 18 = .ok (.istore_n 3, 1) := by decide +kernel
theorem dX9_kinds_19 : decode cX9_kinds 19 = .ok (.iconst 0, 1) := by decide +kernel
theorem dX9_kinds_20 : decode cX9_kinds 20 = .ok (.istore 4, 2) := by decide +kernel
theorem dX9_kinds_22 : decode cX9_kinds 22 = .ok (.iload 4, 2) := by decide +kernel
theorem dX9_kinds_24 : decode cX9_kinds 24 = .ok (.iconst 4, 1) := by decide +kernel
theorem dX9_kinds_25 : decode cX9_kinds 25 = .ok (.if_icmp .gt 43, 3) := by decide +kernel
theorem dX9_kinds_28 : decode cX9_kinds 28 = .ok (.aload_n 0, 1) := by decide +kernel
theorem dX9_kinds_29 : decode cX9_kinds 29 = .ok (.iconst 0, 1) := by decide +kernel
theorem dX9_kinds_30 : decode cX9_kinds 30 = .ok (.sipush 385, 3) := by decide +kernel
theorem dX9_kinds_33 : decode cX9_kinds 33 = .ok (.invokevirtual 175, 3) := by decide +kernel
theorem dX9_kinds_36 : decode cX9_kinds 36 = .ok (.aload_n 0, 1) := by decide +kernel
theorem dX9_kinds_37 : decode cX9_kinds 37 = .ok (.getfield 7, 3) := by decide +kernel
theorem dX9_kinds_40 : decode cX9_kinds 40 = .ok (.iload_n 1, 1) := by decide +kernel
theorem dX9_kinds_41 : decode cX9_kinds 41 = .ok (.iload 4, 2) := by decide +kernel
theorem dX9_kinds_43 : decode cX9_kinds 43 = .ok (.iastore, 1) := by decide +kernel
theorem dX9_kinds_44 : decode cX9_kinds 44 = .ok (.iload_n 3, 1) := by decide +kernel
theorem dX9_kinds_45 : decode cX9_kinds 45 = .ok (.aload_n 0, 1) := by decide +kernel
theorem dX9_kinds_46 : decode cX9_kinds 46 = .ok (.invokevirtual 265, 3) := by decide +kernel
theorem dX9_kinds_49 : decode cX9_kinds 49 = .ok (.ifCond .eq 10, 3) := by decide +kernel
theorem dX9_kinds_52 : decode cX9_kinds 52 = .ok (.iconst 1, 1) := by decide +kernel
theorem dX9_kinds_53 : decode cX9_kinds 53 = .ok (.iload 4, 2) := by decide +kernel
theorem dX9_kinds_55 : decode cX9_kinds 55 = .ok (.ishl, 1) := by decide +kernel
theorem dX9_kinds_56 : decode cX9_kinds 56 = .ok (.goto 4, 3) := by decide +kernel
theorem dX9_kinds_59 : decode cX9_kinds 59 = .ok (.iconst 0, 1) := by decide +kernel
theorem dX9_kinds_60 : decode cX9_kinds 60 = .ok (.ior, 1) := by decide +kernel
theorem dX9_kinds_61 : decode cX9_kinds 61 = .ok (.istore_n 3, 1) := by decide +kernel
theorem dX9_kinds_62 : decode cX9_kinds 62 = .ok (.iinc 4 1, 3) := by decide +kernel
theorem dX9_kinds_65 : decode cX9_kinds 65 = .ok (.goto (-43), 3) := by decide +kernel
theorem dX9_kinds_68 : decode cX9_kinds 68 = .ok (.aload_n 0, 1) := by decide +kernel
theorem dX9_kinds_69 : decode cX9_kinds 69 = .ok (.getfield 7, 3) := by decide +kernel
theorem dX9_kinds_72 : decode cX9_kinds 72 = .ok (.iload_n 1, 1) := by decide +kernel
theorem dX9_kinds_73 : decode cX9_kinds 73 = .ok (.iload_n 2, 1) := by decide +kernel
theorem dX9_kinds_74 : decode cX9_kinds 74 = .ok (.iastore, 1) := by decide +kernel
theorem dX9_kinds_75 : decode cX9_kinds 75 = .ok (.iload_n 3, 1) := by decide +kernel
theorem dX9_kinds_76 : decode cX9_kinds 76 = .ok (.ireturn, 1) := by decide +kernel
set_option maxRecDepth 20000 in
theorem ggX9_idle_X9_isFamily : GoodIn wsX9_idle wsX9_isFamily := goodIn_r _ [10, 3, 11, 12, 9, 13, 50, 51, 52, 53, 54, 55, 56, 57, 58, 59, 60, 61, 62, 63, 64, 65, 66, 67, 68, 69, 70, 71, 72, 73, 74, 75, 76, 77, 78, 79, 80, 81, 82, 83, 84, 85, 86, 87] (by decide +kernel) (by decide +kernel)
set_option maxRecDepth 20000 in
theorem gX9_idle_X9_isFamily : GoodIn wsX9_idle (wsV RX9 204 RX9 yX9_isFamily wsX9_isFamily) := goodIn_app (goodIn_of _ (by decide +kernel)) ggX9_idle_X9_isFamily
set_option maxRecDepth 20000 in
theorem ggX9_idle_X9_in : GoodIn wsX9_idle wsX9_in := goodIn_r _ [13] (by decide +kernel) (by decide +kernel)
set_option maxRecDepth 20000 in
theorem gX9_idle_X9_in : GoodIn wsX9_idle (va_wsS RX9 117 yX9_in wsX9_in) := goodIn_app (goodIn_of _ (by decide +kernel)) ggX9_idle_X9_in
set_option maxRecDepth 20000 in
theorem ggX9_idle_X9_has : GoodIn wsX9_idle wsX9_has := goodIn_r _ [16] (by decide +kernel) (by decide +kernel)
set_option maxRecDepth 20000 in
theorem gX9_idle_X9_has : GoodIn wsX9_idle (va_wsS RX9 191 yX9_has wsX9_has) := goodIn_app (goodIn_of _ (by decide +kernel)) ggX9_idle_X9_has
set_option maxRecDepth 20000 in
theorem ggX9_idle_X9_copies : GoodIn wsX9_idle wsX9_copies := goodIn_r _ [20, 5, 50, 51, 52, 53, 54, 55, 56, 57, 58, 59, 60, 61, 62, 63, 64, 65, 66, 67, 68, 69, 70, 71, 72, 73, 74, 75, 76, 77, 78, 79, 80, 81, 82, 83, 84, 85, 86, 87] (by decide +kernel) (by decide +kernel)
set_option maxRecDepth 20000 in
theorem gX9_idle_X9_copies : GoodIn wsX9_idle (wsV RX9 175 RX9 yX9_copies wsX9_copies) := goodIn_app (goodIn_of _ (by decide +kernel)) ggX9_idle_X9_copies
set_option maxRecDepth 20000 in
theorem ggX9_idle_X9_passes : GoodIn wsX9_idle wsX9_passes := goodIn_r _ [24, 25, 26, 4, 27, 28, 29, 5, 14, 15, 9, 16, 30, 31, 32, 33, 34, 35, 36, 37, 38, 39, 40, 41, 42, 43, 44, 45, 46, 47, 48, 49, 50, 51, 52, 53, 54, 55, 56, 57, 58, 59, 60, 61, 62, 63, 64, 65, 66, 67, 68, 69, 70, 71, 72, 73, 74, 75, 76, 77, 78, 79, 80, 81, 82, 83, 84, 85, 86, 87] (by decide +kernel) (by decide +kernel)
set_option maxRecDepth 20000 in
theorem gX9_idle_X9_passes : GoodIn wsX9_idle (wsV RX9 227 RX9 yX9_passes wsX9_passes) := goodIn_app (goodIn_of _ (by decide +kernel)) ggX9_idle_X9_passes
theorem dX9_idle_0 : decode cX9_idle 0 = .ok (.aload_n 0, 1) := by decide +kernel
theorem dX9_idle_1 : decode cX9_idle 1 = .ok (.iload_n 1, 1) := by decide +kernel
theorem dX9_idle_2 : decode cX9_idle 2 = .ok (.invokevirtual 204, 3) := by decide +kernel
theorem dX9_idle_5 : decode cX9_idle 5 = .ok (.ifCond .eq 38, 3) := by decide +kernel
theorem dX9_idle_8 : decode cX9_idle 8 = .ok (.iload_n 2, 1) := by decide +kernel
theorem dX9_idle_9 : decode cX9_idle 9 = .ok (.i2l, 1) := by decide +kernel
theorem dX9_idle_10 : decode cX9_idle 10 = .ok (.lconst 0, 1) := by decide +kernel
theorem dX9_idle_11 : decode cX9_idle 11 = .ok (.ldc2_w 263, 3) := by decide +kernel
theorem dX9_idle_14 : decode cX9_idle 14 = .ok (.invokestatic 117, 3) := by decide +kernel
theorem dX9_idle_17 : decode cX9_idle 17 = .ok (.ifCond .eq 26, 3) := by decide +kernel
theorem dX9_idle_20 : decode cX9_idle 20 = .ok (.iload_n 3, 1) := by decide +kernel
theorem dX9_idle_21 : decode cX9_idle 21 = .ok (.i2l, 1) := by decide +kernel
theorem dX9_idle_22 : decode cX9_idle 22 = .ok (.lconst 0, 1) := by decide +kernel
theorem dX9_idle_23 : decode cX9_idle 23 = .ok (.ldc2_w 268, 3) := by decide +kernel
theorem dX9_idle_26 : decode cX9_idle 26 = .ok (.invokestatic 117, 3) := by decide +kernel
theorem dX9_idle_29 : decode cX9_idle 29 = .ok (.ifCond .eq 14, 3) := by decide +kernel
theorem dX9_idle_32 : decode cX9_idle 32 = .ok (.iload 4, 2) := by decide +kernel
theorem dX9_idle_34 : decode cX9_idle 34 = .ok (.i2l, 1) := by decide +kernel
theorem dX9_idle_35 : decode cX9_idle 35 = .ok (.lconst 0, 1) := by decide +kernel
theorem dX9_idle_36 : decode cX9_idle 36 = .ok (.lconst 1, 1) := by decide +kernel
theorem dX9_idle_37 : decode cX9_idle 37 = .ok (.invokestatic 117, 3) := by decide +kernel
theorem dX9_idle_40 : decode cX9_idle 40 = .ok (.ifCond .ne 5, 3) := by decide +kernel
theorem dX9_idle_43 : decode cX9_idle 43 = .ok (.iconst (-1), 1) := by decide +kernel
theorem dX9_idle_44 : decode cX9_idle 44 = .ok (.ireturn, 1) := by decide +kernel
theorem dX9_idle_45 : decode cX9_idle 45 = .ok (.iconst 0, 1) := by decide +kernel
theorem dX9_idle_46 : decode cX9_idle 46 = .ok (.istore 5, 2) := by decide +kernel
theorem dX9_idle_48 : decode cX9_idle 48 = .ok (.iconst 0, 1) := by decide +kernel
theorem dX9_idle_49 : decode cX9_idle 49 = .ok (.istore 6, 2) := by decide +kernel
theorem dX9_idle_51 : decode cX9_idle 51 = .ok (.iconst 0, 1) := by decide +kernel
theorem dX9_idle_52 : decode cX9_idle 52 = .ok (.istore 7, 2) := by decide +kernel
theorem dX9_idle_54 : decode cX9_idle 54 = .ok (.iload 7, 2) := by decide +kernel
theorem dX9_idle_56 : decode cX9_idle 56 = .ok (.iconst 1, 1) := by decide +kernel
theorem dX9_idle_57 : decode cX9_idle 57 = .ok (.aload_n 0, 1) := by decide +kernel
theorem dX9_idle_58 : decode cX9_idle 58 = .ok (.getfield 94, 3) := by decide +kernel
theorem dX9_idle_61 : decode cX9_idle 61 = .ok (.ishl, 1) := by decide +kernel
theorem dX9_idle_62 : decode cX9_idle 62 = .ok (.if_icmp .ge 118, 3) := by decide +kernel
theorem dX9_idle_65 : decode cX9_idle 65 = .ok (.iconst 1, 1) := by decide +kernel
theorem dX9_idle_66 : decode cX9_idle 66 = .ok (.istore 8, 2) := by decide +kernel
theorem dX9_idle_68 : decode cX9_idle 68 = .ok (.iconst 0, 1) := by decide +kernel
theorem dX9_idle_69 : decode cX9_idle 69 = .ok (.istore 9, 2) := by decide +kernel
theorem dX9_idle_71 : decode cX9_idle 71 = .ok (.iload 9, 2) := by decide +kernel
theorem dX9_idle_73 : decode cX9_idle 73 = .ok (.aload_n 0, 1) := by decide +kernel
theorem dX9_idle_74 : decode cX9_idle 74 = .ok (.getfield 94, 3) := by decide +kernel
theorem dX9_idle_77 : decode cX9_idle 77 = .ok (.if_icmp .ge 32, 3) := by decide +kernel
theorem dX9_idle_80 : decode cX9_idle 80 = .ok (.iload 8, 2) := by decide +kernel
theorem dX9_idle_82 : decode cX9_idle 82 = .ok (.iload 7, 2) := by decide +kernel
theorem dX9_idle_84 : decode cX9_idle 84 = .ok (.iload 9, 2) := by decide +kernel
theorem dX9_idle_86 : decode cX9_idle 86 = .ok (.invokestatic 191, 3) := by decide +kernel
theorem dX9_idle_89 : decode cX9_idle 89 = .ok (.ifCond .eq 7, 3) := by decide +kernel
theorem dX9_idle_92 : decode cX9_idle 92 = .ok (.iload_n 3, 1) := by decide +kernel
theorem dX9_idle_93 : decode cX9_idle 93 = .ok (.goto 7, 3) := by decide +kernel
theorem dX9_idle_96 : decode cX9_idle 96 = .ok (.bipush 10, 2) := by decide +kernel
theorem dX9_idle_98 : decode cX9_idle 98 = .ok (.iload_n 3, 1) := by decide +kernel
theorem dX9_idle_99 : decode cX9_idle 99 = .ok (.isub, 1) := by decide +kernel
theorem dX9_idle_100 : decode cX9_idle 100 = .ok (.imul, 1) := by decide +kernel
theorem dX9_idle_101 : decode cX9_idle 101 = .ok (.istore 8, 2) := by decide +kernel
theorem dX9_idle_103 : decode cX9_idle 103 = .ok (.iinc 9 1, 3) := by decide +kernel
theorem dX9_idle_106 : decode cX9_idle 106 = .ok (.goto (-35), 3) := by decide +kernel
theorem dX9_idle_109 : decode cX9_idle 109 = .ok (.aload_n 0, 1) := by decide +kernel
theorem dX9_idle_110 : decode cX9_idle 110 = .ok (.iconst 0, 1) := by decide +kernel
theorem dX9_idle_111 : decode cX9_idle 111 = .ok (.sipush 385, 3) := by decide +kernel
theorem dX9_idle_114 : decode cX9_idle 114 = .ok (.invokevirtual 175, 3) := by decide +kernel
theorem dX9_idle_117 : decode cX9_idle 117 = .ok (.aload_n 0, 1) := by decide +kernel
theorem dX9_idle_118 : decode cX9_idle 118 = .ok (.iload 7, 2) := by decide +kernel
theorem dX9_idle_120 : decode cX9_idle 120 = .ok (.putfield 224, 3) := by decide +kernel
theorem dX9_idle_123 : decode cX9_idle 123 = .ok (.aload_n 0, 1) := by decide +kernel
theorem dX9_idle_124 : decode cX9_idle 124 = .ok (.sipush 385, 3) := by decide +kernel
theorem dX9_idle_127 : decode cX9_idle 127 = .ok (.invokevirtual 227, 3) := by decide +kernel
theorem dX9_idle_130 : decode cX9_idle 130 = .ok (.istore 9, 2) := by decide +kernel
theorem dX9_idle_132 : decode cX9_idle 132 = .ok (.aload_n 0, 1) := by decide +kernel
theorem dX9_idle_133 : decode cX9_idle 133 = .ok (.iconst 0, 1) := by decide +kernel
theorem dX9_idle_134 : decode cX9_idle 134 = .ok (.putfield 224, 3) := by decide +kernel
theorem dX9_idle_137 : decode cX9_idle 137 = .ok (.iload 6, 2) := by decide +kernel
theorem dX9_idle_139 : decode cX9_idle 139 = .ok (.iload 8, 2) := by decide +kernel
theorem dX9_idle_141 : decode cX9_idle 141 = .ok (.iadd, 1) := by decide +kernel
theorem dX9_idle_142 : decode cX9_idle 142 = .ok (.istore 6, 2) := by decide +kernel
theorem dX9_idle_144 : decode cX9_idle 144 = .ok (.iload 5, 2) := by decide +kernel
theorem dX9_idle_146 : decode cX9_idle 146 = .ok (.iload 9, 2) := by decide +kernel
theorem dX9_idle_148 : decode cX9_idle 148 = .ok (.ifCond .lt 22, 3) := by decide +kernel
theorem dX9_idle_151 : decode cX9_idle 151 = .ok (.aload_n 0, 1) := by decide +kernel
theorem dX9_idle_152 : decode cX9_idle 152 = .ok (.getfield 46, 3) := by decide +kernel
theorem dX9_idle_155 : decode cX9_idle 155 = .ok (.sipush 385, 3) := by decide +kernel
theorem dX9_idle_158 : decode cX9_idle 158 = .ok (.iload_n 1, 1) := by decide +kernel
theorem dX9_idle_159 : decode cX9_idle 159 = .ok (.iadd, 1) := by decide +kernel
theorem dX9_idle_160 : decode cX9_idle 160 = .ok (.iaload, 1) := by decide +kernel
theorem dX9_idle_161 : decode cX9_idle 161 = .ok (.iload_n 2, 1) := by decide +kernel
theorem dX9_idle_162 : decode cX9_idle 162 = .ok (.if_icmp .lt 8, 3) := by decide +kernel
theorem dX9_idle_165 : decode cX9_idle 165 = .ok (.iload 8, 2) := by decide +kernel
theorem dX9_idle_167 : decode cX9_idle 167 = .ok (.goto 4, 3) := by decide +kernel
theorem dX9_idle_170 : decode cX9_idle 170 = .ok (.iconst 0, 1) := by decide +kernel
theorem dX9_idle_171 : decode cX9_idle 171 = .ok (.iadd, 1) := by decide +kernel
theorem dX9_idle_172 : decode cX9_idle 172 = .ok (.istore 5, 2) := by decide +kernel
theorem dX9_idle_174 : decode cX9_idle 174 = .ok (.iinc 7 1, 3) := by decide +kernel
theorem dX9_idle_177 : decode cX9_idle 177 = .ok (.goto (-123), 3) := by decide +kernel
theorem dX9_idle_180 : decode cX9_idle 180 = .ok (.iload 5, 2) := by decide +kernel
theorem dX9_idle_182 : decode cX9_idle 182 = .ok (.istore 7, 2) := by decide +kernel
theorem dX9_idle_184 : decode cX9_idle 184 = .ok (.iload 6, 2) := by decide +kernel
theorem dX9_idle_186 : decode cX9_idle 186 = .ok (.istore 8, 2) := by decide +kernel
theorem dX9_idle_188 : decode cX9_idle 188 = .ok (.iload 8, 2) := by decide +kernel
theorem dX9_idle_190 : decode cX9_idle 190 = .ok (.ifCond .eq 21, 3) := by decide +kernel
theorem dX9_idle_193 : decode cX9_idle 193 = .ok (.iload 7, 2) := by decide +kernel
theorem dX9_idle_195 : decode cX9_idle 195 = .ok (.iload 8, 2) := by decide +kernel
theorem dX9_idle_197 : decode cX9_idle 197 = .ok (.irem, 1) := by decide +kernel
theorem dX9_idle_198 : decode cX9_idle 198 = .ok (.istore 9, 2) := by decide +kernel
theorem dX9_idle_200 : decode cX9_idle 200 = .ok (.iload 8, 2) := by decide +kernel
theorem dX9_idle_202 : decode cX9_idle 202 = .ok (.istore 7, 2) := by decide +kernel
theorem dX9_idle_204 : decode cX9_idle 204 = .ok (.iload 9, 2) := by decide +kernel
theorem dX9_idle_206 : decode cX9_idle 206 = .ok (.istore 8, 2) := by decide +kernel
theorem dX9_idle_208 : decode cX9_idle 208 = .ok (.goto (-20), 3) := by decide +kernel
theorem dX9_idle_211 : decode cX9_idle 211 = .ok (.iload 4, 2) := by decide +kernel
theorem dX9_idle_213 : decode cX9_idle 213 = .ok (.ifCond .ne 11, 3) := by decide +kernel
theorem dX9_idle_216 : decode cX9_idle 216 = .ok (.iload 5, 2) := by decide +kernel
theorem dX9_idle_218 : decode cX9_idle 218 = .ok (.iload 7, 2) := by decide +kernel
theorem dX9_idle_220 : decode cX9_idle 220 = .ok (.idiv, 1) := by decide +kernel
theorem dX9_idle_221 : decode cX9_idle 221 = .ok (.goto 8, 3) := by decide +kernel
theorem dX9_idle_224 : decode cX9_idle 224 = .ok (.iload 6, 2) := by decide +kernel
theorem dX9_idle_226 : decode cX9_idle 226 = .ok (.iload 7, 2) := by decide +kernel
theorem dX9_idle_228 : decode cX9_idle 228 = .ok (.idiv, 1) := by decide +kernel
theorem dX9_idle_229 : decode cX9_idle 229 = .ok (.ireturn, 1) := by decide +kernel
set_option maxRecDepth 20000 in
theorem ggX9_year_X9_in : GoodIn wsX9_year wsX9_in := goodIn_r _ [12] (by decide +kernel) (by decide +kernel)
set_option maxRecDepth 20000 in
theorem gX9_year_X9_in : GoodIn wsX9_year (va_wsS RX9 117 yX9_in wsX9_in) := goodIn_app (goodIn_of _ (by decide +kernel)) ggX9_year_X9_in
set_option maxRecDepth 20000 in
theorem ggX9_year_X9_copies : GoodIn wsX9_year wsX9_copies := goodIn_r _ [16, 7, 50, 51, 52, 53, 54, 55, 56, 57, 58, 59, 60, 61, 62, 63, 64, 65, 66, 67, 68, 69, 70, 71, 72, 73, 74, 75, 76, 77, 78, 79, 80, 81, 82, 83, 84, 85, 86, 87] (by decide +kernel) (by decide +kernel)
set_option maxRecDepth 20000 in
theorem gX9_year_X9_copies : GoodIn wsX9_year (wsV RX9 175 RX9 yX9_copies wsX9_copies) := goodIn_app (goodIn_of _ (by decide +kernel)) ggX9_year_X9_copies
set_option maxRecDepth 20000 in
theorem ggX9_year_X9_passes : GoodIn wsX9_year wsX9_passes := goodIn_r _ [20, 21, 22, 23, 24, 25, 26, 7, 27, 28, 11, 29, 30, 31, 32, 33, 34, 35, 36, 37, 38, 39, 40, 41, 42, 43, 44, 45, 46, 47, 48, 49, 50, 51, 52, 53, 54, 55, 56, 57, 58, 59, 60, 61, 62, 63, 64, 65, 66, 67, 68, 69, 70, 71, 72, 73, 74, 75, 76, 77, 78, 79, 80, 81, 82, 83, 84, 85, 86, 87] (by decide +kernel) (by decide +kernel)
set_option maxRecDepth 20000 in
theorem gX9_year_X9_passes : GoodIn wsX9_year (wsV RX9 227 RX9 yX9_passes wsX9_passes) := goodIn_app (goodIn_of _ (by decide +kernel)) ggX9_year_X9_passes
set_option maxRecDepth 20000 in
theorem ggX9_year_X9_larger : GoodIn wsX9_year wsX9_larger := goodIn_r _ [45] (by decide +kernel) (by decide +kernel)
set_option maxRecDepth 20000 in
theorem gX9_year_X9_larger : GoodIn wsX9_year (va_wsS RX9 198 yX9_larger wsX9_larger) := goodIn_app (goodIn_of _ (by decide +kernel)) ggX9_year_X9_larger
theorem dX9_year_0 : decode cX9_year 0 = .ok (.iload_n 1, 1) := by decide +kernel
theorem dX9_year_1 : decode cX9_year 1 = .ok (.i2l, 1) := by decide +kernel
theorem dX9_year_2 : decode cX9_year 2 = .ok (.lconst 0, 1) := by decide +kernel
theorem dX9_year_3 : decode cX9_year 3 = .ok (.ldc2_w 270, 3) := by decide +kernel
theorem dX9_year_6 : decode cX9_year 6 = .ok (.invokestatic 117, 3) := by decide +kernel
theorem dX9_year_9 : decode cX9_year 9 = .ok (.ifCond .eq 25, 3) := by decide +kernel
theorem dX9_year_12 : decode cX9_year 12 = .ok (.iload_n 2, 1) := by decide +kernel
theorem dX9_year_13 : decode cX9_year 13 = .ok (.i2l, 1) := by decide +kernel
theorem dX9_year_14 : decode cX9_year 14 = .ok (.lconst 1, 1) := by decide +kernel
theorem dX9_year_15 : decode cX9_year 15 = .ok (.ldc2_w 243, 3) := by decide +kernel
theorem dX9_year_18 : decode cX9_year 18 = .ok (.invokestatic 117, 3) := by decide +kernel
theorem dX9_year_21 : decode cX9_year 21 = .ok (.ifCond .eq 13, 3) := by decide +kernel
theorem dX9_year_24 : decode cX9_year 24 = .ok (.iload_n 3, 1) := by decide +kernel
theorem dX9_year_25 : decode cX9_year 25 = .ok (.i2l, 1) := by decide +kernel
theorem dX9_year_26 : decode cX9_year 26 = .ok (.lconst 0, 1) := by decide +kernel
theorem dX9_year_27 : decode cX9_year 27 = .ok (.lconst 1, 1) := by decide +kernel
theorem dX9_year_28 : decode cX9_year 28 = .ok (.invokestatic 117, 3) := by decide +kernel
theorem dX9_year_31 : decode cX9_year 31 = .ok (.ifCond .ne 5, 3) := by decide +kernel
theorem dX9_year_34 : decode cX9_year 34 = .ok (.iconst (-1), 1) := by decide +kernel
theorem dX9_year_35 : decode cX9_year 35 = .ok (.ireturn, 1) := by decide +kernel
theorem dX9_year_36 : decode cX9_year 36 = .ok (.aload_n 0, 1) := by decide +kernel
theorem dX9_year_37 : decode cX9_year 37 = .ok (.iconst 0, 1) := by decide +kernel
theorem dX9_year_38 : decode cX9_year 38 = .ok (.sipush 385, 3) := by decide +kernel
theorem dX9_year_41 : decode cX9_year 41 = .ok (.invokevirtual 175, 3) := by decide +kernel
theorem dX9_year_44 : decode cX9_year 44 = .ok (.iconst 0, 1) := by decide +kernel
theorem dX9_year_45 : decode cX9_year 45 = .ok (.istore 4, 2) := by decide +kernel
theorem dX9_year_47 : decode cX9_year 47 = .ok (.iconst 0, 1) := by decide +kernel
theorem dX9_year_48 : decode cX9_year 48 = .ok (.istore 5, 2) := by decide +kernel
theorem dX9_year_50 : decode cX9_year 50 = .ok (.iload 5, 2) := by decide +kernel
theorem dX9_year_52 : decode cX9_year 52 = .ok (.iload_n 2, 1) := by decide +kernel
theorem dX9_year_53 : decode cX9_year 53 = .ok (.if_icmp .ge 89, 3) := by decide +kernel
theorem dX9_year_56 : decode cX9_year 56 = .ok (.ldc2_w 272, 3) := by decide +kernel
theorem dX9_year_59 : decode cX9_year 59 = .ok (.iload_n 1, 1) := by decide +kernel
theorem dX9_year_60 : decode cX9_year 60 = .ok (.i2l, 1) := by decide +kernel
theorem dX9_year_61 : decode cX9_year 61 = .ok (.lmul, 1) := by decide +kernel
theorem dX9_year_62 : decode cX9_year 62 = .ok (.ldc2_w 274, 3) := by decide +kernel
theorem dX9_year_65 : decode cX9_year 65 = .ok (.iload 5, 2) := by decide +kernel
theorem dX9_year_67 : decode cX9_year 67 = .ok (.i2l, 1) := by decide +kernel
theorem dX9_year_68 : decode cX9_year 68 = .ok (.lmul, 1) := by decide +kernel
theorem dX9_year_69 : decode cX9_year 69 = .ok (.ladd, 1) := by decide +kernel
theorem dX9_year_70 : decode cX9_year 70 = .ok (.lconst 1, 1) := by decide +kernel
theorem dX9_year_71 : decode cX9_year 71 = .ok (.ladd, 1) := by decide +kernel
theorem dX9_year_72 : decode cX9_year 72 = .ok (.lstore 6, 2) := by decide +kernel
theorem dX9_year_74 : decode cX9_year 74 = .ok (.lload 6, 2) := by decide +kernel
theorem dX9_year_76 : decode cX9_year 76 = .ok (.lload 6, 2) := by decide +kernel
theorem dX9_year_78 : decode cX9_year 78 = .ok (.lmul, 1) := by decide +kernel
theorem dX9_year_79 : decode cX9_year 79 = .ok (.ldc2_w 276, 3) := by decide +kernel
theorem dX9_year_82 : decode cX9_year 82 = .ok (.lrem, 1) := by decide +kernel
theorem dX9_year_83 : decode cX9_year 83 = .ok (.ldc2_w 245, 3) := by decide +kernel
theorem dX9_year_86 : decode cX9_year 86 = .ok (.ldiv, 1) := by decide +kernel
theorem dX9_year_87 : decode cX9_year 87 = .ok (.l2i, 1) := by decide +kernel
theorem dX9_year_88 : decode cX9_year 88 = .ok (.istore 8, 2) := by decide +kernel
theorem dX9_year_90 : decode cX9_year 90 = .ok (.aload_n 0, 1) := by decide +kernel
theorem dX9_year_91 : decode cX9_year 91 = .ok (.getfield 46, 3) := by decide +kernel
theorem dX9_year_94 : decode cX9_year 94 = .ok (.sipush 418, 3) := by decide +kernel
theorem dX9_year_97 : decode cX9_year 97 = .ok (.dup2, 1) := by decide +kernel
theorem dX9_year_98 : decode cX9_year 98 = .ok (.iaload, 1) := by decide +kernel
theorem dX9_year_99 : decode cX9_year 99 = .ok (.iload 8, 2) := by decide +kernel
theorem dX9_year_101 : decode cX9_year 101 = .ok (.bipush 8, 2) := by decide +kernel
theorem dX9_year_103 : decode cX9_year 103 = .ok (.idiv, 1) := by decide +kernel
theorem dX9_year_104 : decode cX9_year 104 = .ok (.iconst 3, 1) := by decide +kernel
theorem dX9_year_105 : decode cX9_year 105 = .ok (.irem, 1) := by decide +kernel
theorem dX9_year_106 : decode cX9_year 106 = .ok (.ifCond .ne 15, 3) := by decide +kernel
theorem dX9_year_109 : decode cX9_year 109 = .ok (.iconst 1, 1) := by decide +kernel
theorem dX9_year_110 : decode cX9_year 110 = .ok (.iload 8, 2) := by decide +kernel
theorem dX9_year_112 : decode cX9_year 112 = .ok (.aload_n 0, 1) := by decide +kernel
theorem dX9_year_113 : decode cX9_year 113 = .ok (.getfield 94, 3) := by decide +kernel
theorem dX9_year_116 : decode cX9_year 116 = .ok (.irem, 1) := by decide +kernel
theorem dX9_year_117 : decode cX9_year 117 = .ok (.ishl, 1) := by decide +kernel
theorem dX9_year_118 : decode cX9_year 118 = .ok (.goto 4, 3) := by decide +kernel
theorem dX9_year_121 : decode cX9_year 121 = .ok (.iconst 0, 1) := by decide +kernel
theorem dX9_year_122 : decode cX9_year 122 = .ok (.ixor, 1) := by decide +kernel
theorem dX9_year_123 : decode cX9_year 123 = .ok (.iastore, 1) := by decide +kernel
theorem dX9_year_124 : decode cX9_year 124 = .ok (.iload 4, 2) := by decide +kernel
theorem dX9_year_126 : decode cX9_year 126 = .ok (.aload_n 0, 1) := by decide +kernel
theorem dX9_year_127 : decode cX9_year 127 = .ok (.sipush 385, 3) := by decide +kernel
theorem dX9_year_130 : decode cX9_year 130 = .ok (.invokevirtual 227, 3) := by decide +kernel
theorem dX9_year_133 : decode cX9_year 133 = .ok (.iadd, 1) := by decide +kernel
theorem dX9_year_134 : decode cX9_year 134 = .ok (.istore 4, 2) := by decide +kernel
theorem dX9_year_136 : decode cX9_year 136 = .ok (.iinc 5 1, 3) := by decide +kernel
theorem dX9_year_139 : decode cX9_year 139 = .ok (.goto (-89), 3) := by decide +kernel
theorem dX9_year_142 : decode cX9_year 142 = .ok (.iconst 0, 1) := by decide +kernel
theorem dX9_year_143 : decode cX9_year 143 = .ok (.istore 5, 2) := by decide +kernel
theorem dX9_year_145 : decode cX9_year 145 = .ok (.iconst 0, 1) := by decide +kernel
theorem dX9_year_146 : decode cX9_year 146 = .ok (.istore 6, 2) := by decide +kernel
theorem dX9_year_148 : decode cX9_year 148 = .ok (.iload 6, 2) := by decide +kernel
theorem dX9_year_150 : decode cX9_year 150 = .ok (.aload_n 0, 1) := by decide +kernel
theorem dX9_year_151 : decode cX9_year 151 = .ok (.getfield 94, 3) := by decide +kernel
theorem dX9_year_154 : decode cX9_year 154 = .ok (.if_icmp .ge 27, 3) := by decide +kernel
theorem dX9_year_157 : decode cX9_year 157 = .ok (.iload 5, 2) := by decide +kernel
theorem dX9_year_159 : decode cX9_year 159 = .ok (.aload_n 0, 1) := by decide +kernel
theorem dX9_year_160 : decode cX9_year 160 = .ok (.getfield 46, 3) := by decide +kernel
theorem dX9_year_163 : decode cX9_year 163 = .ok (.sipush 385, 3) := by decide +kernel
theorem dX9_year_166 : decode cX9_year 166 = .ok (.iload 6, 2) := by decide +kernel
theorem dX9_year_168 : decode cX9_year 168 = .ok (.iadd, 1) := by decide +kernel
theorem dX9_year_169 : decode cX9_year 169 = .ok (.iaload, 1) := by decide +kernel
theorem dX9_year_170 : decode cX9_year 170 = .ok (.invokestatic 198, 3) := by decide +kernel
theorem dX9_year_173 : decode cX9_year 173 = .ok (.istore 5, 2) := by decide +kernel
theorem dX9_year_175 : decode cX9_year 175 = .ok (.iinc 6 1, 3) := by decide +kernel
theorem dX9_year_178 : decode cX9_year 178 = .ok (.goto (-30), 3) := by decide +kernel
theorem dX9_year_181 : decode cX9_year 181 = .ok (.iload_n 3, 1) := by decide +kernel
theorem dX9_year_182 : decode cX9_year 182 = .ok (.ifCond .ne 8, 3) := by decide +kernel
theorem dX9_year_185 : decode cX9_year 185 = .ok (.iload 5, 2) := by decide +kernel
theorem dX9_year_187 : decode cX9_year 187 = .ok (.goto 5, 3) := by decide +kernel
theorem dX9_year_190 : decode cX9_year 190 = .ok (.iload 4, 2) := by decide +kernel
theorem dX9_year_192 : decode cX9_year 192 = .ok (.ireturn, 1) := by decide +kernel
set_option maxRecDepth 20000 in
theorem ggX9_keep_X9_copies : GoodIn wsX9_keep wsX9_copies := goodIn_r _ [6, 7, 8, 9, 10, 11, 12, 13, 14, 15, 16, 17, 18, 19, 20, 21, 22, 23, 24, 25, 26, 27, 28, 29, 30, 31, 32, 33, 34, 35, 36, 37, 38, 39, 40, 41, 42, 43, 44, 45] (by decide +kernel) (by decide +kernel)
set_option maxRecDepth 20000 in
theorem gX9_keep_X9_copies : GoodIn wsX9_keep (wsV RX9 175 RX9 yX9_copies wsX9_copies) := goodIn_app (goodIn_of _ (by decide +kernel)) ggX9_keep_X9_copies
theorem dX9_keep_0 : decode cX9_keep 0 = .ok (.aload_n 0, 1) := by decide +kernel
theorem dX9_keep_1 : decode cX9_keep 1 = .ok (.getfield 181, 3) := by decide +kernel
theorem dX9_keep_4 : decode cX9_keep 4 = .ok (.iconst 2, 1) := by decide +kernel
theorem dX9_keep_5 : decode cX9_keep 5 = .ok (.if_icmp .ne 6, 3) := by decide +kernel
theorem dX9_keep_8 : decode cX9_keep 8 = .ok (.bipush (-3), 2) := by decide +kernel
theorem dX9_keep_10 : decode cX9_keep 10 = .ok (.ireturn, 1) := by decide +kernel
theorem dX9_keep_11 : decode cX9_keep 11 = .ok (.aload_n 0, 1) := by decide +kernel
theorem dX9_keep_12 : decode cX9_keep 12 = .ok (.iconst 0, 1) := by decide +kernel
theorem dX9_keep_13 : decode cX9_keep 13 = .ok (.bipush 9, 2) := by decide +kernel
theorem dX9_keep_15 : decode cX9_keep 15 = .ok (.aload_n 0, 1) := by decide +kernel
theorem dX9_keep_16 : decode cX9_keep 16 = .ok (.getfield 181, 3) := by decide +kernel
theorem dX9_keep_19 : decode cX9_keep 19 = .ok (.iadd, 1) := by decide +kernel
theorem dX9_keep_20 : decode cX9_keep 20 = .ok (.bipush 35, 2) := by decide +kernel
theorem dX9_keep_22 : decode cX9_keep 22 = .ok (.imul, 1) := by decide +kernel
theorem dX9_keep_23 : decode cX9_keep 23 = .ok (.invokevirtual 175, 3) := by decide +kernel
theorem dX9_keep_26 : decode cX9_keep 26 = .ok (.aload_n 0, 1) := by decide +kernel
theorem dX9_keep_27 : decode cX9_keep 27 = .ok (.dup, 1) := by decide +kernel
theorem dX9_keep_28 : decode cX9_keep 28 = .ok (.getfield 181, 3) := by decide +kernel
theorem dX9_keep_31 : decode cX9_keep 31 = .ok (.iconst 1, 1) := by decide +kernel
theorem dX9_keep_32 : decode cX9_keep 32 = .ok (.iadd, 1) := by decide +kernel
theorem dX9_keep_33 : decode cX9_keep 33 = .ok (.putfield 181, 3) := by decide +kernel
theorem dX9_keep_36 : decode cX9_keep 36 = .ok (.aload_n 0, 1) := by decide +kernel
theorem dX9_keep_37 : decode cX9_keep 37 = .ok (.getfield 181, 3) := by decide +kernel
theorem dX9_keep_40 : decode cX9_keep 40 = .ok (.ireturn, 1) := by decide +kernel
set_option maxRecDepth 20000 in
theorem ggX9_back_X9_copies : GoodIn wsX9_back wsX9_copies := goodIn_r _ [7, 8, 9, 10, 11, 12, 13, 14, 15, 16, 17, 18, 19, 20, 21, 22, 23, 24, 25, 26, 27, 28, 29, 30, 31, 32, 33, 34, 35, 36, 37, 38, 39, 40, 41, 42, 43, 44, 45, 46] (by decide +kernel) (by decide +kernel)
set_option maxRecDepth 20000 in
theorem gX9_back_X9_copies : GoodIn wsX9_back (wsV RX9 175 RX9 yX9_copies wsX9_copies) := goodIn_app (goodIn_of _ (by decide +kernel)) ggX9_back_X9_copies
theorem dX9_back_0 : decode cX9_back 0 = .ok (.aload_n 0, 1) := by decide +kernel
theorem dX9_back_1 : decode cX9_back 1 = .ok (.getfield 181, 3) := by decide +kernel
theorem dX9_back_4 : decode cX9_back 4 = .ok (.ifCond .ne 6, 3) := by decide +kernel
theorem dX9_back_7 : decode cX9_back 7 = .ok (.bipush (-2), 2) := by decide +kernel
theorem dX9_back_9 : decode cX9_back 9 = .ok (.ireturn, 1) := by decide +kernel
theorem dX9_back_10 : decode cX9_back 10 = .ok (.aload_n 0, 1) := by decide +kernel
theorem dX9_back_11 : decode cX9_back 11 = .ok (.dup, 1) := by decide +kernel
theorem dX9_back_12 : decode cX9_back 12 = .ok (.getfield 181, 3) := by decide +kernel
theorem dX9_back_15 : decode cX9_back 15 = .ok (.iconst 1, 1) := by decide +kernel
theorem dX9_back_16 : decode cX9_back 16 = .ok (.isub, 1) := by decide +kernel
theorem dX9_back_17 : decode cX9_back 17 = .ok (.putfield 181, 3) := by decide +kernel
theorem dX9_back_20 : decode cX9_back 20 = .ok (.aload_n 0, 1) := by decide +kernel
theorem dX9_back_21 : decode cX9_back 21 = .ok (.bipush 9, 2) := by decide +kernel
theorem dX9_back_23 : decode cX9_back 23 = .ok (.aload_n 0, 1) := by decide +kernel
theorem dX9_back_24 : decode cX9_back 24 = .ok (.getfield 181, 3) := by decide +kernel
theorem dX9_back_27 : decode cX9_back 27 = .ok (.iadd, 1) := by decide +kernel
theorem dX9_back_28 : decode cX9_back 28 = .ok (.bipush 35, 2) := by decide +kernel
theorem dX9_back_30 : decode cX9_back 30 = .ok (.imul, 1) := by decide +kernel
theorem dX9_back_31 : decode cX9_back 31 = .ok (.iconst 0, 1) := by decide +kernel
theorem dX9_back_32 : decode cX9_back 32 = .ok (.invokevirtual 175, 3) := by decide +kernel
theorem dX9_back_35 : decode cX9_back 35 = .ok (.aload_n 0, 1) := by decide +kernel
theorem dX9_back_36 : decode cX9_back 36 = .ok (.iconst 0, 1) := by decide +kernel
theorem dX9_back_37 : decode cX9_back 37 = .ok (.putfield 178, 3) := by decide +kernel
theorem dX9_back_40 : decode cX9_back 40 = .ok (.aload_n 0, 1) := by decide +kernel
theorem dX9_back_41 : decode cX9_back 41 = .ok (.getfield 181, 3) := by decide +kernel
theorem dX9_back_44 : decode cX9_back 44 = .ok (.ireturn, 1) := by decide +kernel
theorem dX9_sumOf_0 : decode cX9_sumOf 0 = .ok (.iconst 0, 1) := by decide +kernel
theorem dX9_sumOf_1 : decode cX9_sumOf 1 = .ok (.istore_n 2, 1) := by decide +kernel
theorem dX9_sumOf_2 : decode cX9_sumOf 2 = .ok (.iconst 0, 1) := by decide +kernel
theorem dX9_sumOf_3 : decode cX9_sumOf 3 = .ok (.istore_n 3, 1) := by decide +kernel
theorem dX9_sumOf_4 : decode cX9_sumOf 4 = .ok (.iload_n 3, 1) := by decide +kernel
theorem dX9_sumOf_5 : decode cX9_sumOf 5 = .ok (.aload_n 0, 1) := by decide +kernel
theorem dX9_sumOf_6 : decode cX9_sumOf 6 = .ok (.getfield 94, 3) := by decide +kernel
theorem dX9_sumOf_9 : decode cX9_sumOf 9 = .ok (.if_icmp .ge 36, 3) := by decide +kernel
theorem dX9_sumOf_12 : decode cX9_sumOf 12 = .ok (.iload_n 2, 1) := by decide +kernel
theorem dX9_sumOf_13 : decode cX9_sumOf 13 = .ok (.iload_n 1, 1) := by decide +kernel
theorem dX9_sumOf_14 : decode cX9_sumOf 14 = .ok (.ifCond .ne 17, 3) := by decide +kernel
theorem dX9_sumOf_17 : decode cX9_sumOf 17 = .ok (.aload_n 0, 1) := by decide +kernel
theorem dX9_sumOf_18 : decode cX9_sumOf 18 = .ok (.getfield 46, 3) := by decide +kernel
theorem dX9_sumOf_21 : decode cX9_sumOf 21 = .ok (.bipush 33, 2) := by decide +kernel
theorem dX9_sumOf_23 : decode cX9_sumOf 23 = .ok (.iaload, 1) := by decide +kernel
theorem dX9_sumOf_24 : decode cX9_sumOf 24 = .ok (.iload_n 3, 1) := by decide +kernel
theorem dX9_sumOf_25 : decode cX9_sumOf 25 = .ok (.ishr, 1) := by decide +kernel
theorem dX9_sumOf_26 : decode cX9_sumOf 26 = .ok (.iconst 1, 1) := by decide +kernel
theorem dX9_sumOf_27 : decode cX9_sumOf 27 = .ok (.iand, 1) := by decide +kernel
theorem dX9_sumOf_28 : decode cX9_sumOf 28 = .ok (.goto 9, 3) := by decide +kernel
theorem dX9_sumOf_31 : decode cX9_sumOf 31 = .ok (.aload_n 0, 1) := by decide +kernel
theorem dX9_sumOf_32 : decode cX9_sumOf 32 = .ok (.getfield 46, 3) := by decide +kernel
theorem dX9_sumOf_35 : decode cX9_sumOf 35 = .ok (.iload_n 3, 1) := by decide +kernel
theorem dX9_sumOf_36 : decode cX9_sumOf 36 = .ok (.iaload, 1) := by decide +kernel
theorem dX9_sumOf_37 : decode cX9_sumOf 37 = .ok (.iadd, 1) := by decide +kernel
theorem dX9_sumOf_38 : decode cX9_sumOf 38 = .ok (.istore_n 2, 1) := by decide +kernel
theorem dX9_sumOf_39 : decode cX9_sumOf 39 = .ok (.iinc 3 1, 3) := by decide +kernel
theorem dX9_sumOf_42 : decode cX9_sumOf 42 = .ok (.goto (-38), 3) := by decide +kernel
theorem dX9_sumOf_45 : decode cX9_sumOf 45 = .ok (.iload_n 2, 1) := by decide +kernel
theorem dX9_sumOf_46 : decode cX9_sumOf 46 = .ok (.ireturn, 1) := by decide +kernel
set_option maxRecDepth 20000 in
theorem ggX9_count_X9_sumOf : GoodIn wsX9_count wsX9_sumOf := goodIn_r _ [13, 1, 4, 14, 15, 16, 17, 18, 19, 20, 21, 22, 23, 24, 25, 26, 27, 28, 29, 30, 31, 32, 33, 34, 35, 36, 37, 38, 39, 40, 41, 42, 43, 44, 45, 46, 47, 48, 49, 50, 51] (by decide +kernel) (by decide +kernel)
set_option maxRecDepth 20000 in
theorem gX9_count_X9_sumOf : GoodIn wsX9_count (wsV RX9 278 RX9 yX9_sumOf wsX9_sumOf) := goodIn_app (goodIn_of _ (by decide +kernel)) ggX9_count_X9_sumOf
theorem dX9_count_0 : decode cX9_count 0 = .ok (.iload_n 1, 1) := by decide +kernel
theorem dX9_count_1 : decode cX9_count 1 = .ok (.ifCond .ne 10, 3) := by decide +kernel
theorem dX9_count_4 : decode cX9_count 4 = .ok (.aload_n 0, 1) := by decide +kernel
theorem dX9_count_5 : decode cX9_count 5 = .ok (.getfield 94, 3) := by decide +kernel
theorem dX9_count_8 : decode cX9_count 8 = .ok (.goto 121, 3) := by decide +kernel
theorem dX9_count_11 : decode cX9_count 11 = .ok (.iload_n 1, 1) := by decide +kernel
theorem dX9_count_12 : decode cX9_count 12 = .ok (.iconst 1, 1) := by decide +kernel
theorem dX9_count_13 : decode cX9_count 13 = .ok (.if_icmp .ne 10, 3) := by decide +kernel
theorem dX9_count_16 : decode cX9_count 16 = .ok (.aload_n 0, 1) := by decide +kernel
theorem dX9_count_17 : decode cX9_count 17 = .ok (.getfield 111, 3) := by decide +kernel
theorem dX9_count_20 : decode cX9_count 20 = .ok (.goto 109, 3) := by decide +kernel
theorem dX9_count_23 : decode cX9_count 23 = .ok (.iload_n 1, 1) := by decide +kernel
theorem dX9_count_24 : decode cX9_count 24 = .ok (.iconst 2, 1) := by decide +kernel
theorem dX9_count_25 : decode cX9_count 25 = .ok (.if_icmp .ne 10, 3) := by decide +kernel
theorem dX9_count_28 : decode cX9_count 28 = .ok (.aload_n 0, 1) := by decide +kernel
theorem dX9_count_29 : decode cX9_count 29 = .ok (.getfield 114, 3) := by decide +kernel
theorem dX9_count_32 : decode cX9_count 32 = .ok (.goto 97, 3) := by decide +kernel
theorem dX9_count_35 : decode cX9_count 35 = .ok (.iload_n 1, 1) := by decide +kernel
theorem dX9_count_36 : decode cX9_count 36 = .ok (.iconst 3, 1) := by decide +kernel
theorem dX9_count_37 : decode cX9_count 37 = .ok (.if_icmp .ne 13, 3) := by decide +kernel
theorem dX9_count_40 : decode cX9_count 40 = .ok (.aload_n 0, 1) := by decide +kernel
theorem dX9_count_41 : decode cX9_count 41 = .ok (.getfield 46, 3) := by decide +kernel
theorem dX9_count_44 : decode cX9_count 44 = .ok (.bipush 34, 2) := by decide +kernel
theorem dX9_count_46 : decode cX9_count 46 = .ok (.iaload, 1) := by decide +kernel
theorem dX9_count_47 : decode cX9_count 47 = .ok (.goto 82, 3) := by decide +kernel
theorem dX9_count_50 : decode cX9_count 50 = .ok (.iload_n 1, 1) := by decide +kernel
theorem dX9_count_51 : decode cX9_count 51 = .ok (.iconst 4, 1) := by decide +kernel
theorem dX9_count_52 : decode cX9_count 52 = .ok (.if_icmp .ne 11, 3) := by decide +kernel
theorem dX9_count_55 : decode cX9_count 55 = .ok (.aload_n 0, 1) := by decide +kernel
theorem dX9_count_56 : decode cX9_count 56 = .ok (.iconst 0, 1) := by decide +kernel
theorem dX9_count_57 : decode cX9_count 57 = .ok (.invokevirtual 278, 3) := by decide +kernel
theorem dX9_count_60 : decode cX9_count 60 = .ok (.goto 69, 3) := by decide +kernel
theorem dX9_count_63 : decode cX9_count 63 = .ok (.iload_n 1, 1) := by decide +kernel
theorem dX9_count_64 : decode cX9_count 64 = .ok (.iconst 5, 1) := by decide +kernel
theorem dX9_count_65 : decode cX9_count 65 = .ok (.if_icmp .ne 11, 3) := by decide +kernel
theorem dX9_count_68 : decode cX9_count 68 = .ok (.aload_n 0, 1) := by decide +kernel
theorem dX9_count_69 : decode cX9_count 69 = .ok (.iconst 1, 1) := by decide +kernel
theorem dX9_count_70 : decode cX9_count 70 = .ok (.invokevirtual 278, 3) := by decide +kernel
theorem dX9_count_73 : decode cX9_count 73 = .ok (.goto 56, 3) := by decide +kernel
theorem dX9_count_76 : decode cX9_count 76 = .ok (.iload_n 1, 1) := by decide +kernel
theorem dX9_count_77 : decode cX9_count 77 = .ok (.bipush 6, 2) := by decide +kernel
theorem dX9_count_79 : decode cX9_count 79 = .ok (.if_icmp .ne 10, 3) := by decide +kernel
theorem dX9_count_82 : decode cX9_count 82 = .ok (.aload_n 0, 1) := by decide +kernel
theorem dX9_count_83 : decode cX9_count 83 = .ok (.getfield 184, 3) := by decide +kernel
theorem dX9_count_86 : decode cX9_count 86 = .ok (.goto 43, 3) := by decide +kernel
theorem dX9_count_89 : decode cX9_count 89 = .ok (.iload_n 1, 1) := by decide +kernel
theorem dX9_count_90 : decode cX9_count 90 = .ok (.bipush 7, 2) := by decide +kernel
theorem dX9_count_92 : decode cX9_count 92 = .ok (.if_icmp .ne 10, 3) := by decide +kernel
theorem dX9_count_95 : decode cX9_count 95 = .ok (.aload_n 0, 1) := by decide +kernel
theorem dX9_count_96 : decode cX9_count 96 = .ok (.getfield 178, 3) := by decide +kernel
theorem dX9_count_99 : decode cX9_count 99 = .ok (.goto 30, 3) := by decide +kernel
theorem dX9_count_102 : decode cX9_count 102 = .ok (.iload_n 1, 1) := by decide +kernel
theorem dX9_count_103 : decode cX9_count 103 = .ok (.bipush 8, 2) := by decide +kernel
theorem dX9_count_105 : decode cX9_count 105 = .ok (.if_icmp .ne 10, 3) := by decide +kernel
theorem dX9_count_108 : decode cX9_count 108 = .ok (.aload_n 0, 1) := by decide +kernel
theorem dX9_count_109 : decode cX9_count 109 = .ok (.getfield 181, 3) := by decide +kernel
theorem dX9_count_112 : decode cX9_count 112 = .ok (.goto 17, 3) := by decide +kernel
theorem dX9_count_115 : decode cX9_count 115 = .ok (.iload_n 1, 1) := by decide +kernel
theorem dX9_count_116 : decode cX9_count 116 = .ok (.bipush 9, 2) := by decide +kernel
theorem dX9_count_118 : decode cX9_count 118 = .ok (.if_icmp .ne 10, 3) := by decide +kernel
theorem dX9_count_121 : decode cX9_count 121 = .ok (.aload_n 0, 1) := by decide +kernel
theorem dX9_count_122 : decode cX9_count 122 = .ok (.getfield 136, 3) := by decide +kernel
theorem dX9_count_125 : decode cX9_count 125 = .ok (.goto 4, 3) := by decide +kernel
theorem dX9_count_128 : decode cX9_count 128 = .ok (.iconst (-1), 1) := by decide +kernel
theorem dX9_count_129 : decode cX9_count 129 = .ok (.ireturn, 1) := by decide +kernel
