theorem dX7_init_0 : decode cX7_init 0 = .ok (.aload_n 0, 1) := by decide +kernel
theorem dX7_init_1 : decode cX7_init 1 = .ok (.invokespecial 1, 3) := by decide +kernel
theorem dX7_init_4 : decode cX7_init 4 = .ok (.aload_n 0, 1) := by decide +kernel
theorem dX7_init_5 : decode cX7_init 5 = .ok (.bipush 40, 2) := by decide +kernel
theorem dX7_init_7 : decode cX7_init 7 = .ok (.newarray .int, 2) := by decide +kernel
theorem dX7_init_9 : decode cX7_init 9 = .ok (.putfield 7, 3) := by decide +kernel
theorem dX7_init_12 : decode cX7_init 12 = .ok (.aload_n 0, 1) := by decide +kernel
theorem dX7_init_13 : decode cX7_init 13 = .ok (.bipush 40, 2) := by decide +kernel
theorem dX7_init_15 : decode cX7_init 15 = .ok (.newarray .int, 2) := by decide +kernel
theorem dX7_init_17 : decode cX7_init 17 = .ok (.putfield 13, 3) := by decide +kernel
theorem dX7_init_20 : decode cX7_init 20 = .ok (.aload_n 0, 1) := by decide +kernel
theorem dX7_init_21 : decode cX7_init 21 = .ok (.bipush 40, 2) := by decide +kernel
theorem dX7_init_23 : decode cX7_init 23 = .ok (.newarray .int, 2) := by decide +kernel
theorem dX7_init_25 : decode cX7_init 25 = .ok (.putfield 16, 3) := by decide +kernel
theorem dX7_init_28 : decode cX7_init 28 = .ok (.aload_n 0, 1) := by decide +kernel
theorem dX7_init_29 : decode cX7_init 29 = .ok (.bipush 40, 2) := by decide +kernel
theorem dX7_init_31 : decode cX7_init 31 = .ok (.newarray .int, 2) := by decide +kernel
theorem dX7_init_33 : decode cX7_init 33 = .ok (.putfield 19, 3) := by decide +kernel
theorem dX7_init_36 : decode cX7_init 36 = .ok (.aload_n 0, 1) := by decide +kernel
theorem dX7_init_37 : decode cX7_init 37 = .ok (.bipush 40, 2) := by decide +kernel
theorem dX7_init_39 : decode cX7_init 39 = .ok (.newarray .int, 2) := by decide +kernel
theorem dX7_init_41 : decode cX7_init 41 = .ok (.putfield 22, 3) := by decide +kernel
theorem dX7_init_44 : decode cX7_init 44 = .ok (.aload_n 0, 1) := by decide +kernel
theorem dX7_init_45 : decode cX7_init 45 = .ok (.bipush 40, 2) := by decide +kernel
theorem dX7_init_47 : decode cX7_init 47 = .ok (.newarray .boolean, 2) := by decide +kernel
theorem dX7_init_49 : decode cX7_init 49 = .ok (.putfield 25, 3) := by decide +kernel
theorem dX7_init_52 : decode cX7_init 52 = .ok (.aload_n 0, 1) := by decide +kernel
theorem dX7_init_53 : decode cX7_init 53 = .ok (.bipush 40, 2) := by decide +kernel
theorem dX7_init_55 : decode cX7_init 55 = .ok (.newarray .boolean, 2) := by decide +kernel
theorem dX7_init_57 : decode cX7_init 57 = .ok (.putfield 29, 3) := by decide +kernel
theorem dX7_init_60 : decode cX7_init 60 = .ok (.aload_n 0, 1) := by decide +kernel
theorem dX7_init_61 : decode cX7_init 61 = .ok (.bipush 40, 2) := by decide +kernel
theorem dX7_init_63 : decode cX7_init 63 = .ok (.newarray .int, 2) := by decide +kernel
theorem dX7_init_65 : decode cX7_init 65 = .ok (.putfield 32, 3) := by decide +kernel
theorem dX7_init_68 : decode cX7_init 68 = .ok (.aload_n 0, 1) := by decide +kernel
theorem dX7_init_69 : decode cX7_init 69 = .ok (.bipush 100, 2) := by decide +kernel
theorem dX7_init_71 : decode cX7_init 71 = .ok (.newarray .int, 2) := by decide +kernel
theorem dX7_init_73 : decode cX7_init 73 = .ok (.putfield 35, 3) := by decide +kernel
theorem dX7_init_76 : decode cX7_init 76 = .ok (.aload_n 0, 1) := by decide +kernel
theorem dX7_init_77 : decode cX7_init 77 = .ok (.bipush 100, 2) := by decide +kernel
theorem dX7_init_79 : decode cX7_init 79 = .ok (.newarray .int, 2) := by decide +kernel
theorem dX7_init_81 : decode cX7_init 81 = .ok (.putfield 38, 3) := by decide +kernel
theorem dX7_init_84 : decode cX7_init 84 = .ok (.aload_n 0, 1) := by decide +kernel
theorem dX7_init_85 : decode cX7_init 85 = .ok (.bipush 100, 2) := by decide +kernel
theorem dX7_init_87 : decode cX7_init 87 = .ok (.newarray .int, 2) := by decide +kernel
theorem dX7_init_89 : decode cX7_init 89 = .ok (.putfield 41, 3) := by decide +kernel
theorem dX7_init_92 : decode cX7_init 92 = .ok (.aload_n 0, 1) := by decide +kernel
theorem dX7_init_93 : decode cX7_init 93 = .ok (.bipush 100, 2) := by decide +kernel
theorem dX7_init_95 : decode cX7_init 95 = .ok (.newarray .int, 2) := by decide +kernel
theorem dX7_init_97 : decode cX7_init 97 = .ok (.putfield 44, 3) := by decide +kernel
theorem dX7_init_100 : decode cX7_init 100 = .ok (.aload_n 0, 1) := by decide +kernel
theorem dX7_init_101 : decode cX7_init 101 = .ok (.bipush 100, 2) := by decide +kernel
theorem dX7_init_103 : decode cX7_init 103 = .ok (.newarray .int, 2) := by decide +kernel
theorem dX7_init_105 : decode cX7_init 105 = .ok (.putfield 47, 3) := by decide +kernel
theorem dX7_init_108 : decode cX7_init 108 = .ok (.aload_n 0, 1) := by decide +kernel
theorem dX7_init_109 : decode cX7_init 109 = .ok (.bipush 100, 2) := by decide +kernel
theorem dX7_init_111 : decode cX7_init 111 = .ok (.newarray .int, 2) := by decide +kernel
theorem dX7_init_113 : decode cX7_init 113 = .ok (.putfield 50, 3) := by decide +kernel
theorem dX7_init_116 : decode cX7_init 116 = .ok (.aload_n 0, 1) := by decide +kernel
theorem dX7_init_117 : decode cX7_init 117 = .ok (.bipush 100, 2) := by decide +kernel
theorem dX7_init_119 : decode cX7_init 119 = .ok (.newarray .int, 2) := by decide +kernel
theorem dX7_init_121 : decode cX7_init 121 = .ok (.putfield 53, 3) := by decide +kernel
theorem dX7_init_124 : decode cX7_init 124 = .ok (.aload_n 0, 1) := by decide +kernel
theorem dX7_init_125 : decode cX7_init 125 = .ok (.bipush 100, 2) := by decide +kernel
theorem dX7_init_127 : decode cX7_init 127 = .ok (.newarray .int, 2) := by decide +kernel
theorem dX7_init_129 : decode cX7_init 129 = .ok (.putfield 56, 3) := by decide +kernel
theorem dX7_init_132 : decode cX7_init 132 = .ok (.aload_n 0, 1) := by decide +kernel
theorem dX7_init_133 : decode cX7_init 133 = .ok (.bipush 100, 2) := by decide +kernel
theorem dX7_init_135 : decode cX7_init 135 = .ok (.newarray .int, 2) := by decide +kernel
theorem dX7_init_137 : decode cX7_init 137 = .ok (.putfield 59, 3) := by decide +kernel
theorem dX7_init_140 : decode cX7_init 140 = .ok (.aload_n 0, 1) := by decide +kernel
theorem dX7_init_141 : decode cX7_init 141 = .ok (.bipush 100, 2) := by decide +kernel
theorem dX7_init_143 : decode cX7_init 143 = .ok (.newarray .int, 2) := by decide +kernel
theorem dX7_init_145 : decode cX7_init 145 = .ok (.putfield 62, 3) := by decide +kernel
theorem dX7_init_148 : decode cX7_init 148 = .ok (.aload_n 0, 1) := by decide +kernel
theorem dX7_init_149 : decode cX7_init 149 = .ok (.bipush 100, 2) := by decide +kernel
theorem dX7_init_151 : decode cX7_init 151 = .ok (.newarray .int, 2) := by decide +kernel
theorem dX7_init_153 : decode cX7_init 153 = .ok (.putfield 65, 3) := by decide +kernel
theorem dX7_init_156 : decode cX7_init 156 = .ok (.aload_n 0, 1) := by decide +kernel
theorem dX7_init_157 : decode cX7_init 157 = .ok (.bipush 100, 2) := by decide +kernel
theorem dX7_init_159 : decode cX7_init 159 = .ok (.newarray .int, 2) := by decide +kernel
theorem dX7_init_161 : decode cX7_init 161 = .ok (.putfield 68, 3) := by decide +kernel
theorem dX7_init_164 : decode cX7_init 164 = .ok (.aload_n 0, 1) := by decide +kernel
theorem dX7_init_165 : decode cX7_init 165 = .ok (.bipush 100, 2) := by decide +kernel
theorem dX7_init_167 : decode cX7_init 167 = .ok (.newarray .int, 2) := by decide +kernel
theorem dX7_init_169 : decode cX7_init 169 = .ok (.putfield 71, 3) := by decide +kernel
theorem dX7_init_172 : decode cX7_init 172 = .ok (.aload_n 0, 1) := by decide +kernel
theorem dX7_init_173 : decode cX7_init 173 = .ok (.bipush 100, 2) := by decide +kernel
theorem dX7_init_175 : decode cX7_init 175 = .ok (.newarray .int, 2) := by decide +kernel
theorem dX7_init_177 : decode cX7_init 177 = .ok (.putfield 74, 3) := by decide +kernel
theorem dX7_init_180 : decode cX7_init 180 = .ok (.aload_n 0, 1) := by decide +kernel
theorem dX7_init_181 : decode cX7_init 181 = .ok (.bipush 40, 2) := by decide +kernel
theorem dX7_init_183 : decode cX7_init 183 = .ok (.newarray .int, 2) := by decide +kernel
theorem dX7_init_185 : decode cX7_init 185 = .ok (.putfield 77, 3) := by decide +kernel
theorem dX7_init_188 : decode cX7_init 188 = .ok (.aload_n 0, 1) := by decide +kernel
theorem dX7_init_189 : decode cX7_init 189 = .ok (.bipush 40, 2) := by decide +kernel
theorem dX7_init_191 : decode cX7_init 191 = .ok (.newarray .int, 2) := by decide +kernel
theorem dX7_init_193 : decode cX7_init 193 = .ok (.putfield 80, 3) := by decide +kernel
theorem dX7_init_196 : decode cX7_init 196 = .ok (.aload_n 0, 1) := by decide +kernel
theorem dX7_init_197 : decode cX7_init 197 = .ok (.bipush 40, 2) := by decide +kernel
theorem dX7_init_199 : decode cX7_init 199 = .ok (.newarray .int, 2) := by decide +kernel
theorem dX7_init_201 : decode cX7_init 201 = .ok (.putfield 83, 3) := by decide +kernel
theorem dX7_init_204 : decode cX7_init 204 = .ok (.aload_n 0, 1) := by decide +kernel
theorem dX7_init_205 : decode cX7_init 205 = .ok (.bipush 40, 2) := by decide +kernel
theorem dX7_init_207 : decode cX7_init 207 = .ok (.newarray .boolean, 2) := by decide +kernel
theorem dX7_init_209 : decode cX7_init 209 = .ok (.putfield 86, 3) := by decide +kernel
theorem dX7_init_212 : decode cX7_init 212 = .ok (.aload_n 0, 1) := by decide +kernel
theorem dX7_init_213 : decode cX7_init 213 = .ok (.sipush 400, 3) := by decide +kernel
theorem dX7_init_216 : decode cX7_init 216 = .ok (.newarray .int, 2) := by decide +kernel
theorem dX7_init_218 : decode cX7_init 218 = .ok (.putfield 89, 3) := by decide +kernel
theorem dX7_init_221 : decode cX7_init 221 = .ok (.aload_n 0, 1) := by decide +kernel
theorem dX7_init_222 : decode cX7_init 222 = .ok (.sipush 400, 3) := by decide +kernel
theorem dX7_init_225 : decode cX7_init 225 = .ok (.newarray .int, 2) := by decide +kernel
theorem dX7_init_227 : decode cX7_init 227 = .ok (.putfield 92, 3) := by decide +kernel
theorem dX7_init_230 : decode cX7_init 230 = .ok (.aload_n 0, 1) := by decide +kernel
theorem dX7_init_231 : decode cX7_init 231 = .ok (.sipush 400, 3) := by decide +kernel
theorem dX7_init_234 : decode cX7_init 234 = .ok (.newarray .int, 2) := by decide +kernel
theorem dX7_init_236 : decode cX7_init 236 = .ok (.putfield 95, 3) := by decide +kernel
theorem dX7_init_239 : decode cX7_init 239 = .ok (.aload_n 0, 1) := by decide +kernel
theorem dX7_init_240 : decode cX7_init 240 = .ok (.sipush 400, 3) := by decide +kernel
theorem dX7_init_243 : decode cX7_init 243 = .ok (.newarray .int, 2) := by decide +kernel
theorem dX7_init_245 : decode cX7_init 245 = .ok (.putfield 98, 3) := by decide +kernel
theorem dX7_init_248 : decode cX7_init 248 = .ok (.aload_n 0, 1) := by decide +kernel
theorem dX7_init_249 : decode cX7_init 249 = .ok (.sipush 400, 3) := by decide +kernel
theorem dX7_init_252 : decode cX7_init 252 = .ok (.newarray .int, 2) := by decide +kernel
theorem dX7_init_254 : decode cX7_init 254 = .ok (.putfield 101, 3) := by decide +kernel
theorem dX7_init_257 : decode cX7_init 257 = .ok (.aload_n 0, 1) := by decide +kernel
theorem dX7_init_258 : decode cX7_init 258 = .ok (.sipush 400, 3) := by decide +kernel
theorem dX7_init_261 : decode cX7_init 261 = .ok (.newarray .int, 2) := by decide +kernel
theorem dX7_init_263 : decode cX7_init 263 = .ok (.putfield 104, 3) := by decide +kernel
theorem dX7_init_266 : decode cX7_init 266 = .ok (.aload_n 0, 1) := by decide +kernel
theorem dX7_init_267 : decode cX7_init 267 = .ok (.sipush 400, 3) := by decide +kernel
theorem dX7_init_270 : decode cX7_init 270 = .ok (.newarray .int, 2) := by decide +kernel
theorem dX7_init_272 : decode cX7_init 272 = .ok (.putfield 107, 3) := by decide +kernel
theorem dX7_init_275 : decode cX7_init 275 = .ok (.aload_n 0, 1) := by decide +kernel
theorem dX7_init_276 : decode cX7_init 276 = .ok (.sipush 400, 3) := by decide +kernel
theorem dX7_init_279 : decode cX7_init 279 = .ok (.newarray .int, 2) := by decide +kernel
theorem dX7_init_281 : decode cX7_init 281 = .ok (.putfield 110, 3) := by decide +kernel
theorem dX7_init_284 : decode cX7_init 284 = .ok (.aload_n 0, 1) := by decide +kernel
theorem dX7_init_285 : decode cX7_init 285 = .ok (.sipush 400, 3) := by decide +kernel
theorem dX7_init_288 : decode cX7_init 288 = .ok (.newarray .boolean, 2) := by decide +kernel
theorem dX7_init_290 : decode cX7_init 290 = .ok (.putfield 113, 3) := by decide +kernel
theorem dX7_init_293 : decode cX7_init 293 = .ok (.aload_n 0, 1) := by decide +kernel
theorem dX7_init_294 : decode cX7_init 294 = .ok (.bipush 16, 2) := by decide +kernel
theorem dX7_init_296 : decode cX7_init 296 = .ok (.newarray .boolean, 2) := by decide +kernel
theorem dX7_init_298 : decode cX7_init 298 = .ok (.putfield 116, 3) := by decide +kernel
theorem dX7_init_301 : decode cX7_init 301 = .ok (.aload_n 0, 1) := by decide +kernel
theorem dX7_init_302 : decode cX7_init 302 = .ok (.sipush 400, 3) := by decide +kernel
theorem dX7_init_305 : decode cX7_init 305 = .ok (.newarray .int, 2) := by decide +kernel
theorem dX7_init_307 : decode cX7_init 307 = .ok (.putfield 119, 3) := by decide +kernel
theorem dX7_init_310 : decode cX7_init 310 = .ok (.aload_n 0, 1) := by decide +kernel
theorem dX7_init_311 : decode cX7_init 311 = .ok (.sipush 400, 3) := by decide +kernel
theorem dX7_init_314 : decode cX7_init 314 = .ok (.newarray .int, 2) := by decide +kernel
theorem dX7_init_316 : decode cX7_init 316 = .ok (.putfield 122, 3) := by decide +kernel
theorem dX7_init_319 : decode cX7_init 319 = .ok (.aload_n 0, 1) := by decide +kernel
theorem dX7_init_320 : decode cX7_init 320 = .ok (.sipush 400, 3) := by decide +kernel
theorem dX7_init_323 : decode cX7_init 323 = .ok (.newarray .int, 2) := by decide +kernel
theorem dX7_init_325 : decode cX7_init 325 = .ok (.putfield 125, 3) := by decide +kernel
theorem dX7_init_328 : decode cX7_init 328 = .ok (.aload_n 0, 1) := by decide +kernel
theorem dX7_init_329 : decode cX7_init 329 = .ok (.iconst 0, 1) := by decide +kernel
theorem dX7_init_330 : decode cX7_init 330 = .ok (.putfield 128, 3) := by decide +kernel
theorem dX7_init_333 : decode cX7_init 333 = .ok (.return_, 1) := by decide +kernel
theorem dX7_in_0 : decode cX7_in 0 = .ok (.iload_n 0, 1) := by decide +kernel
theorem dX7_in_1 : decode cX7_in 1 = .ok (.iload_n 1, 1) := by decide +kernel
theorem dX7_in_2 : decode cX7_in 2 = .ok (.if_icmp .lt 12, 3) := by decide +kernel
theorem dX7_in_5 : decode cX7_in 5 = .ok (.iload_n 0, 1) := by decide +kernel
theorem dX7_in_6 : decode cX7_in 6 = .ok (.iload_n 2, 1) := by decide +kernel
theorem dX7_in_7 : decode cX7_in 7 = .ok (.if_icmp .gt 7, 3) := by decide +kernel
theorem dX7_in_10 : decode cX7_in 10 = .ok (.iconst 1, 1) := by decide +kernel
theorem dX7_in_11 : decode cX7_in 11 = .ok (.goto 4, 3) := by decide +kernel
theorem dX7_in_14 : decode cX7_in 14 = .ok (.iconst 0, 1) := by decide +kernel
theorem dX7_in_15 : decode cX7_in 15 = .ok (.ireturn, 1) := by decide +kernel
theorem dX7_isThing_0 : decode cX7_isThing 0 = .ok (.iload_n 1, 1) := by decide +kernel
theorem dX7_isThing_1 : decode cX7_isThing 1 = .ok (.iconst 0, 1) := by decide +kernel
theorem dX7_isThing_2 : decode cX7_isThing 2 = .ok (.aload_n 0, 1) := by decide +kernel
theorem dX7_isThing_3 : decode cX7_isThing 3 = .ok (.getfield 128, 3) := by decide +kernel
theorem dX7_isThing_6 : decode cX7_isThing 6 = .ok (.iconst 1, 1) := by decide +kernel
theorem dX7_isThing_7 : decode cX7_isThing 7 = .ok (.isub, 1) := by decide +kernel
theorem dX7_isThing_8 : decode cX7_isThing 8 = .ok (.invokestatic 132, 3) := by decide +kernel
theorem dX7_isThing_11 : decode cX7_isThing 11 = .ok (.ireturn, 1) := by decide +kernel
theorem dX7_isPromise_0 : decode cX7_isPromise 0 = .ok (.iload_n 1, 1) := by decide +kernel
theorem dX7_isPromise_1 : decode cX7_isPromise 1 = .ok (.iconst 0, 1) := by decide +kernel
theorem dX7_isPromise_2 : decode cX7_isPromise 2 = .ok (.aload_n 0, 1) := by decide +kernel
theorem dX7_isPromise_3 : decode cX7_isPromise 3 = .ok (.getfield 136, 3) := by decide +kernel
theorem dX7_isPromise_6 : decode cX7_isPromise 6 = .ok (.iconst 1, 1) := by decide +kernel
theorem dX7_isPromise_7 : decode cX7_isPromise 7 = .ok (.isub, 1) := by decide +kernel
theorem dX7_isPromise_8 : decode cX7_isPromise 8 = .ok (.invokestatic 132, 3) := by decide +kernel
theorem dX7_isPromise_11 : decode cX7_isPromise 11 = .ok (.ireturn, 1) := by decide +kernel
theorem dX7_comes_0 : decode cX7_comes 0 = .ok (.aload_n 0, 1) := by decide +kernel
theorem dX7_comes_1 : decode cX7_comes 1 = .ok (.getfield 7, 3) := by decide +kernel
theorem dX7_comes_4 : decode cX7_comes 4 = .ok (.aload_n 0, 1) := by decide +kernel
theorem dX7_comes_5 : decode cX7_comes 5 = .ok (.getfield 128, 3) := by decide +kernel
theorem dX7_comes_8 : decode cX7_comes 8 = .ok (.iload_n 1, 1) := by decide +kernel
theorem dX7_comes_9 : decode cX7_comes 9 = .ok (.iastore, 1) := by decide +kernel
theorem dX7_comes_10 : decode cX7_comes 10 = .ok (.aload_n 0, 1) := by decide +kernel
theorem dX7_comes_11 : decode cX7_comes 11 = .ok (.getfield 13, 3) := by decide +kernel
theorem dX7_comes_14 : decode cX7_comes 14 = .ok (.aload_n 0, 1) := by decide +kernel
theorem dX7_comes_15 : decode cX7_comes 15 = .ok (.getfield 128, 3) := by decide +kernel
theorem dX7_comes_18 : decode cX7_comes 18 = .ok (.iload_n 2, 1) := by decide +kernel
theorem dX7_comes_19 : decode cX7_comes 19 = .ok (.iastore, 1) := by decide +kernel
theorem dX7_comes_20 : decode cX7_comes 20 = .ok (.aload_n 0, 1) := by decide +kernel
theorem dX7_comes_21 : decode cX7_comes 21 = .ok (.getfield 16, 3) := by decide +kernel
theorem dX7_comes_24 : decode cX7_comes 24 = .ok (.aload_n 0, 1) := by decide +kernel
theorem dX7_comes_25 : decode cX7_comes 25 = .ok (.getfield 128, 3) := by decide +kernel
theorem dX7_comes_28 : decode cX7_comes 28 = .ok (.iload_n 3, 1) := by decide +kernel
theorem dX7_comes_29 : decode cX7_comes 29 = .ok (.iastore, 1) := by decide +kernel
theorem dX7_comes_30 : decode cX7_comes 30 = .ok (.aload_n 0, 1) := by decide +kernel
theorem dX7_comes_31 : decode cX7_comes 31 = .ok (.getfield 19, 3) := by decide +kernel
theorem dX7_comes_34 : decode cX7_comes 34 = .ok (.aload_n 0, 1) := by decide +kernel
theorem dX7_comes_35 : decode cX7_comes 35 = .ok (.getfield 128, 3) := by decide +kernel
theorem dX7_comes_38 : decode cX7_comes 38 = .ok (.iload 4, 2) := by decide +kernel
theorem dX7_comes_40 : decode cX7_comes 40 = .ok (.iastore, 1) := by decide +kernel
theorem dX7_comes_41 : decode cX7_comes 41 = .ok (.aload_n 0, 1) := by decide +kernel
theorem dX7_comes_42 : decode cX7_comes 42 = .ok (.getfield 22, 3) := by decide +kernel
theorem dX7_comes_45 : decode cX7_comes 45 = .ok (.aload_n 0, 1) := by decide +kernel
theorem dX7_comes_46 : decode cX7_comes 46 = .ok (.getfield 128, 3) := by decide +kernel
theorem dX7_comes_49 : decode cX7_comes 49 = .ok (.iload 5, 2) := by decide +kernel
theorem dX7_comes_51 : decode cX7_comes 51 = .ok (.iastore, 1) := by decide +kernel
theorem dX7_comes_52 : decode cX7_comes 52 = .ok (.aload_n 0, 1) := by decide +kernel
theorem dX7_comes_53 : decode cX7_comes 53 = .ok (.getfield 25, 3) := by decide +kernel
theorem dX7_comes_56 : decode cX7_comes 56 = .ok (.aload_n 0, 1) := by decide +kernel
theorem dX7_comes_57 : decode cX7_comes 57 = .ok (.getfield 128, 3) := by decide +kernel
theorem dX7_comes_60 : decode cX7_comes 60 = .ok (.iconst 0, 1) := by decide +kernel
theorem dX7_comes_61 : decode cX7_comes 61 = .ok (.bastore, 1) := by decide +kernel
theorem dX7_comes_62 : decode cX7_comes 62 = .ok (.aload_n 0, 1) := by decide +kernel
theorem dX7_comes_63 : decode cX7_comes 63 = .ok (.getfield 29, 3) := by decide +kernel
theorem dX7_comes_66 : decode cX7_comes 66 = .ok (.aload_n 0, 1) := by decide +kernel
theorem dX7_comes_67 : decode cX7_comes 67 = .ok (.getfield 128, 3) := by decide +kernel
theorem dX7_comes_70 : decode cX7_comes 70 = .ok (.iconst 0, 1) := by decide +kernel
theorem dX7_comes_71 : decode cX7_comes 71 = .ok (.bastore, 1) := by decide +kernel
theorem dX7_comes_72 : decode cX7_comes 72 = .ok (.aload_n 0, 1) := by decide +kernel
theorem dX7_comes_73 : decode cX7_comes 73 = .ok (.getfield 32, 3) := by decide +kernel
theorem dX7_comes_76 : decode cX7_comes 76 = .ok (.aload_n 0, 1) := by decide +kernel
theorem dX7_comes_77 : decode cX7_comes 77 = .ok (.getfield 128, 3) := by decide +kernel
theorem dX7_comes_80 : decode cX7_comes 80 = .ok (.iconst 0, 1) := by decide +kernel
theorem dX7_comes_81 : decode cX7_comes 81 = .ok (.iastore, 1) := by decide +kernel
theorem dX7_comes_82 : decode cX7_comes 82 = .ok (.aload_n 0, 1) := by decide +kernel
theorem dX7_comes_83 : decode cX7_comes 83 = .ok (.dup, 1) := by decide +kernel
theorem dX7_comes_84 : decode cX7_comes 84 = .ok (.getfield 128, 3) := by decide +kernel
theorem dX7_comes_87 : decode cX7_comes 87 = .ok (.iconst 1, 1) := by decide +kernel
theorem dX7_comes_88 : decode cX7_comes 88 = .ok (.iadd, 1) := by decide +kernel
theorem dX7_comes_89 : decode cX7_comes 89 = .ok (.putfield 128, 3) := by decide +kernel
theorem dX7_comes_92 : decode cX7_comes 92 = .ok (.aload_n 0, 1) := by decide +kernel
theorem dX7_comes_93 : decode cX7_comes 93 = .ok (.getfield 128, 3) := by decide +kernel
theorem dX7_comes_96 : decode cX7_comes 96 = .ok (.iconst 1, 1) := by decide +kernel
theorem dX7_comes_97 : decode cX7_comes 97 = .ok (.isub, 1) := by decide +kernel
theorem dX7_comes_98 : decode cX7_comes 98 = .ok (.ireturn, 1) := by decide +kernel
theorem dX7_thing_0 : decode cX7_thing 0 = .ok (.iload_n 2, 1) := by decide +kernel
theorem dX7_thing_1 : decode cX7_thing 1 = .ok (.ifCond .eq 38, 3) := by decide +kernel
theorem dX7_thing_4 : decode cX7_thing 4 = .ok (.iload_n 2, 1) := by decide +kernel
theorem dX7_thing_5 : decode cX7_thing 5 = .ok (.iconst 2, 1) := by decide +kernel
theorem dX7_thing_6 : decode cX7_thing 6 = .ok (.if_icmp .eq 33, 3) := by decide +kernel
theorem dX7_thing_9 : decode cX7_thing 9 = .ok (.iload_n 2, 1) := by decide +kernel
theorem dX7_thing_10 : decode cX7_thing 10 = .ok (.iconst 1, 1) := by decide +kernel
theorem dX7_thing_11 : decode cX7_thing 11 = .ok (.if_icmp .ne 7, 3) := by decide +kernel
theorem dX7_thing_14 : decode cX7_thing 14 = .ok (.iload_n 3, 1) := by decide +kernel
theorem dX7_thing_15 : decode cX7_thing 15 = .ok (.ifCond .ge 24, 3) := by decide +kernel
theorem dX7_thing_18 : decode cX7_thing 18 = .ok (.iload_n 2, 1) := by decide +kernel
theorem dX7_thing_19 : decode cX7_thing 19 = .ok (.iconst 5, 1) := by decide +kernel
theorem dX7_thing_20 : decode cX7_thing 20 = .ok (.if_icmp .eq 9, 3) := by decide +kernel
theorem dX7_thing_23 : decode cX7_thing 23 = .ok (.iload_n 2, 1) := by decide +kernel
theorem dX7_thing_24 : decode cX7_thing 24 = .ok (.bipush 6, 2) := by decide +kernel
theorem dX7_thing_26 : decode cX7_thing 26 = .ok (.if_icmp .ne 17, 3) := by decide +kernel
theorem dX7_thing_29 : decode cX7_thing 29 = .ok (.iload_n 3, 1) := by decide +kernel
theorem dX7_thing_30 : decode cX7_thing 30 = .ok (.iconst 1, 1) := by decide +kernel
theorem dX7_thing_31 : decode cX7_thing 31 = .ok (.bipush 20, 2) := by decide +kernel
theorem dX7_thing_33 : decode cX7_thing 33 = .ok (.invokestatic 132, 3) := by decide +kernel
theorem dX7_thing_36 : decode cX7_thing 36 = .ok (.ifCond .eq 7, 3) := by decide +kernel
theorem dX7_thing_39 : decode cX7_thing 39 = .ok (.iconst 1, 1) := by decide +kernel
theorem dX7_thing_40 : decode cX7_thing 40 = .ok (.goto 4, 3) := by decide +kernel
theorem dX7_thing_43 : decode cX7_thing 43 = .ok (.iconst 0, 1) := by decide +kernel
theorem dX7_thing_44 : decode cX7_thing 44 = .ok (.istore 4, 2) := by decide +kernel
theorem dX7_thing_46 : decode cX7_thing 46 = .ok (.iload_n 1, 1) := by decide +kernel
theorem dX7_thing_47 : decode cX7_thing 47 = .ok (.iconst 0, 1) := by decide +kernel
theorem dX7_thing_48 : decode cX7_thing 48 = .ok (.iconst 3, 1) := by decide +kernel
theorem dX7_thing_49 : decode cX7_thing 49 = .ok (.invokestatic 132, 3) := by decide +kernel
theorem dX7_thing_52 : decode cX7_thing 52 = .ok (.ifCond .eq 8, 3) := by decide +kernel
theorem dX7_thing_55 : decode cX7_thing 55 = .ok (.iload 4, 2) := by decide +kernel
theorem dX7_thing_57 : decode cX7_thing 57 = .ok (.ifCond .ne 5, 3) := by decide +kernel
theorem dX7_thing_60 : decode cX7_thing 60 = .ok (.iconst (-1), 1) := by decide +kernel
theorem dX7_thing_61 : decode cX7_thing 61 = .ok (.ireturn, 1) := by decide +kernel
theorem dX7_thing_62 : decode cX7_thing 62 = .ok (.aload_n 0, 1) := by decide +kernel
theorem dX7_thing_63 : decode cX7_thing 63 = .ok (.getfield 128, 3) := by decide +kernel
theorem dX7_thing_66 : decode cX7_thing 66 = .ok (.bipush 40, 2) := by decide +kernel
theorem dX7_thing_68 : decode cX7_thing 68 = .ok (.if_icmp .ne 8, 3) := by decide +kernel
theorem dX7_thing_71 : decode cX7_thing 71 = .ok (.bipush (-3), 2) := by decide +kernel
theorem dX7_thing_73 : decode cX7_thing 73 = .ok (.goto 13, 3) := by decide +kernel
theorem dX7_thing_76 : decode cX7_thing 76 = .ok (.aload_n 0, 1) := by decide +kernel
theorem dX7_thing_77 : decode cX7_thing 77 = .ok (.iload_n 1, 1) := by decide +kernel
theorem dX7_thing_78 : decode cX7_thing 78 = .ok (.iload_n 2, 1) := by decide +kernel
theorem dX7_thing_79 : decode cX7_thing 79 = .ok (.iload_n 3, 1) := by decide +kernel
theorem dX7_thing_80 : decode cX7_thing 80 = .ok (.bipush (-9), 2) := by decide +kernel
theorem dX7_thing_82 : decode cX7_thing 82 = .ok (.iconst 0, 1) := by decide +kernel
theorem dX7_thing_83 : decode cX7_thing 83 = .ok (.invokevirtual 139, 3) := by decide +kernel
theorem dX7_thing_86 : decode cX7_thing 86 = .ok (.ireturn, 1) := by decide +kernel
theorem dX7_guard_0 : decode cX7_guard 0 = .ok (.iload_n 1, 1) := by decide +kernel
theorem dX7_guard_1 : decode cX7_guard 1 = .ok (.iconst 0, 1) := by decide +kernel
theorem dX7_guard_2 : decode cX7_guard 2 = .ok (.iconst 3, 1) := by decide +kernel
theorem dX7_guard_3 : decode cX7_guard 3 = .ok (.invokestatic 132, 3) := by decide +kernel
theorem dX7_guard_6 : decode cX7_guard 6 = .ok (.ifCond .eq 22, 3) := by decide +kernel
theorem dX7_guard_9 : decode cX7_guard 9 = .ok (.aload_n 0, 1) := by decide +kernel
theorem dX7_guard_10 : decode cX7_guard 10 = .ok (.iload_n 2, 1) := by decide +kernel
theorem dX7_guard_11 : decode cX7_guard 11 = .ok (.invokevirtual 143, 3) := by decide +kernel
theorem dX7_guard_14 : decode cX7_guard 14 = .ok (.ifCond .eq 14, 3) := by decide +kernel
theorem dX7_guard_17 : decode cX7_guard 17 = .ok (.iload_n 3, 1) := by decide +kernel
theorem dX7_guard_18 : decode cX7_guard 18 = .ok (.iconst 0, 1) := by decide +kernel
theorem dX7_guard_19 : decode cX7_guard 19 = .ok (.sipush 255, 3) := by decide +kernel
theorem dX7_guard_22 : decode cX7_guard 22 = .ok (.invokestatic 132, 3) := by decide +kernel
theorem dX7_guard_25 : decode cX7_guard 25 = .ok (.ifCond .ne 5, 3) := by decide +kernel
theorem dX7_guard_28 : decode cX7_guard 28 = .ok (.iconst (-1), 1) := by decide +kernel
theorem dX7_guard_29 : decode cX7_guard 29 = .ok (.ireturn, 1) := by decide +kernel
theorem dX7_guard_30 : decode cX7_guard 30 = .ok (.aload_n 0, 1) := by decide +kernel
theorem dX7_guard_31 : decode cX7_guard 31 = .ok (.getfield 128, 3) := by decide +kernel
theorem dX7_guard_34 : decode cX7_guard 34 = .ok (.bipush 40, 2) := by decide +kernel
theorem dX7_guard_36 : decode cX7_guard 36 = .ok (.if_icmp .ne 8, 3) := by decide +kernel
theorem dX7_guard_39 : decode cX7_guard 39 = .ok (.bipush (-3), 2) := by decide +kernel
theorem dX7_guard_41 : decode cX7_guard 41 = .ok (.goto 21, 3) := by decide +kernel
theorem dX7_guard_44 : decode cX7_guard 44 = .ok (.aload_n 0, 1) := by decide +kernel
theorem dX7_guard_45 : decode cX7_guard 45 = .ok (.iload_n 1, 1) := by decide +kernel
theorem dX7_guard_46 : decode cX7_guard 46 = .ok (.iload 4, 2) := by decide +kernel
theorem dX7_guard_48 : decode cX7_guard 48 = .ok (.ifCond .eq 7, 3) := by decide +kernel
theorem dX7_guard_51 : decode cX7_guard 51 = .ok (.iconst 4, 1) := by decide +kernel
theorem dX7_guard_52 : decode cX7_guard 52 = .ok (.goto 4, 3) := by decide +kernel
theorem dX7_guard_55 : decode cX7_guard 55 = .ok (.iconst 3, 1) := by decide +kernel
theorem dX7_guard_56 : decode cX7_guard 56 = .ok (.iconst 0, 1) := by decide +kernel
theorem dX7_guard_57 : decode cX7_guard 57 = .ok (.iload_n 2, 1) := by decide +kernel
theorem dX7_guard_58 : decode cX7_guard 58 = .ok (.iload_n 3, 1) := by decide +kernel
theorem dX7_guard_59 : decode cX7_guard 59 = .ok (.invokevirtual 139, 3) := by decide +kernel
theorem dX7_guard_62 : decode cX7_guard 62 = .ok (.ireturn, 1) := by decide +kernel
theorem dX7_shut_0 : decode cX7_shut 0 = .ok (.aload_n 0, 1) := by decide +kernel
theorem dX7_shut_1 : decode cX7_shut 1 = .ok (.iload_n 1, 1) := by decide +kernel
theorem dX7_shut_2 : decode cX7_shut 2 = .ok (.invokevirtual 143, 3) := by decide +kernel
theorem dX7_shut_5 : decode cX7_shut 5 = .ok (.ifCond .eq 23, 3) := by decide +kernel
theorem dX7_shut_8 : decode cX7_shut 8 = .ok (.aload_n 0, 1) := by decide +kernel
theorem dX7_shut_9 : decode cX7_shut 9 = .ok (.getfield 13, 3) := by decide +kernel
theorem dX7_shut_12 : decode cX7_shut 12 = .ok (.iload_n 1, 1) := by decide +kernel
theorem dX7_shut_13 : decode cX7_shut 13 = .ok (.iaload, 1) := by decide +kernel
theorem dX7_shut_14 : decode cX7_shut 14 = .ok (.iconst 3, 1) := by decide +kernel
theorem dX7_shut_15 : decode cX7_shut 15 = .ok (.if_icmp .eq 15, 3) := by decide +kernel
theorem dX7_shut_18 : decode cX7_shut 18 = .ok (.aload_n 0, 1) := by decide +kernel
theorem dX7_shut_19 : decode cX7_shut 19 = .ok (.getfield 13, 3) := by decide +kernel
theorem dX7_shut_22 : decode cX7_shut 22 = .ok (.iload_n 1, 1) := by decide +kernel
theorem dX7_shut_23 : decode cX7_shut 23 = .ok (.iaload, 1) := by decide +kernel
theorem dX7_shut_24 : decode cX7_shut 24 = .ok (.iconst 4, 1) := by decide +kernel
theorem dX7_shut_25 : decode cX7_shut 25 = .ok (.if_icmp .eq 5, 3) := by decide +kernel
theorem dX7_shut_28 : decode cX7_shut 28 = .ok (.iconst (-1), 1) := by decide +kernel
theorem dX7_shut_29 : decode cX7_shut 29 = .ok (.ireturn, 1) := by decide +kernel
theorem dX7_shut_30 : decode cX7_shut 30 = .ok (.aload_n 0, 1) := by decide +kernel
theorem dX7_shut_31 : decode cX7_shut 31 = .ok (.getfield 25, 3) := by decide +kernel
theorem dX7_shut_34 : decode cX7_shut 34 = .ok (.iload_n 1, 1) := by decide +kernel
theorem dX7_shut_35 : decode cX7_shut 35 = .ok (.baload, 1) := by decide +kernel
theorem dX7_shut_36 : decode cX7_shut 36 = .ok (.ifCond .eq 7, 3) := by decide +kernel
theorem dX7_shut_39 : decode cX7_shut 39 = .ok (.iconst 1, 1) := by decide +kernel
theorem dX7_shut_40 : decode cX7_shut 40 = .ok (.goto 4, 3) := by decide +kernel
theorem dX7_shut_43 : decode cX7_shut 43 = .ok (.iconst 0, 1) := by decide +kernel
theorem dX7_shut_44 : decode cX7_shut 44 = .ok (.istore_n 3, 1) := by decide +kernel
theorem dX7_shut_45 : decode cX7_shut 45 = .ok (.aload_n 0, 1) := by decide +kernel
theorem dX7_shut_46 : decode cX7_shut 46 = .ok (.getfield 25, 3) := by decide +kernel
theorem dX7_shut_49 : decode cX7_shut 49 = .ok (.iload_n 1, 1) := by decide +kernel
theorem dX7_shut_50 : decode cX7_shut 50 = .ok (.iload_n 2, 1) := by decide +kernel
theorem dX7_shut_51 : decode cX7_shut 51 = .ok (.bastore, 1) := by decide +kernel
theorem dX7_shut_52 : decode cX7_shut 52 = .ok (.iload_n 3, 1) := by decide +kernel
theorem dX7_shut_53 : decode cX7_shut 53 = .ok (.ireturn, 1) := by decide +kernel
theorem dX7_back_0 : decode cX7_back 0 = .ok (.aload_n 0, 1) := by decide +kernel
theorem dX7_back_1 : decode cX7_back 1 = .ok (.iload_n 1, 1) := by decide +kernel
theorem dX7_back_2 : decode cX7_back 2 = .ok (.invokevirtual 143, 3) := by decide +kernel
theorem dX7_back_5 : decode cX7_back 5 = .ok (.ifCond .eq 13, 3) := by decide +kernel
theorem dX7_back_8 : decode cX7_back 8 = .ok (.aload_n 0, 1) := by decide +kernel
theorem dX7_back_9 : decode cX7_back 9 = .ok (.getfield 13, 3) := by decide +kernel
theorem dX7_back_12 : decode cX7_back 12 = .ok (.iload_n 1, 1) := by decide +kernel
theorem dX7_back_13 : decode cX7_back 13 = .ok (.iaload, 1) := by decide +kernel
theorem dX7_back_14 : decode cX7_back 14 = .ok (.iconst 4, 1) := by decide +kernel
theorem dX7_back_15 : decode cX7_back 15 = .ok (.if_icmp .eq 5, 3) := by decide +kernel
theorem dX7_back_18 : decode cX7_back 18 = .ok (.iconst (-1), 1) := by decide +kernel
theorem dX7_back_19 : decode cX7_back 19 = .ok (.ireturn, 1) := by decide +kernel
theorem dX7_back_20 : decode cX7_back 20 = .ok (.aload_n 0, 1) := by decide +kernel
theorem dX7_back_21 : decode cX7_back 21 = .ok (.getfield 29, 3) := by decide +kernel
theorem dX7_back_24 : decode cX7_back 24 = .ok (.iload_n 1, 1) := by decide +kernel
theorem dX7_back_25 : decode cX7_back 25 = .ok (.baload, 1) := by decide +kernel
theorem dX7_back_26 : decode cX7_back 26 = .ok (.ifCond .eq 7, 3) := by decide +kernel
theorem dX7_back_29 : decode cX7_back 29 = .ok (.iconst 0, 1) := by decide +kernel
theorem dX7_back_30 : decode cX7_back 30 = .ok (.goto 4, 3) := by decide +kernel
theorem dX7_back_33 : decode cX7_back 33 = .ok (.iconst 1, 1) := by decide +kernel
theorem dX7_back_34 : decode cX7_back 34 = .ok (.istore_n 2, 1) := by decide +kernel
theorem dX7_back_35 : decode cX7_back 35 = .ok (.aload_n 0, 1) := by decide +kernel
theorem dX7_back_36 : decode cX7_back 36 = .ok (.getfield 29, 3) := by decide +kernel
theorem dX7_back_39 : decode cX7_back 39 = .ok (.iload_n 1, 1) := by decide +kernel
theorem dX7_back_40 : decode cX7_back 40 = .ok (.iconst 1, 1) := by decide +kernel
theorem dX7_back_41 : decode cX7_back 41 = .ok (.bastore, 1) := by decide +kernel
theorem dX7_back_42 : decode cX7_back 42 = .ok (.iload_n 2, 1) := by decide +kernel
theorem dX7_back_43 : decode cX7_back 43 = .ok (.ireturn, 1) := by decide +kernel
theorem dX7_about_0 : decode cX7_about 0 = .ok (.aload_n 0, 1) := by decide +kernel
theorem dX7_about_1 : decode cX7_about 1 = .ok (.iload_n 1, 1) := by decide +kernel
theorem dX7_about_2 : decode cX7_about 2 = .ok (.invokevirtual 143, 3) := by decide +kernel
theorem dX7_about_5 : decode cX7_about 5 = .ok (.ifCond .ne 5, 3) := by decide +kernel
theorem dX7_about_8 : decode cX7_about 8 = .ok (.iconst (-1), 1) := by decide +kernel
theorem dX7_about_9 : decode cX7_about 9 = .ok (.ireturn, 1) := by decide +kernel
theorem dX7_about_10 : decode cX7_about 10 = .ok (.iload_n 2, 1) := by decide +kernel
theorem dX7_about_11 : decode cX7_about 11 = .ok (.tableswitch 117 0 7 #[45, 52, 59, 66, 73, 80, 95, 110], 45) := by decide +kernel
theorem dX7_about_56 : decode cX7_about 56 = .ok (.aload_n 0, 1) := by decide +kernel
theorem dX7_about_57 : decode cX7_about 57 = .ok (.getfield 7, 3) := by decide +kernel
theorem dX7_about_60 : decode cX7_about 60 = .ok (.iload_n 1, 1) := by decide +kernel
theorem dX7_about_61 : decode cX7_about 61 = .ok (.iaload, 1) := by decide +kernel
theorem dX7_about_62 : decode cX7_about 62 = .ok (.ireturn, 1) := by decide +kernel
theorem dX7_about_63 : decode cX7_about 63 = .ok (.aload_n 0, 1) := by decide +kernel
theorem dX7_about_64 : decode cX7_about 64 = .ok (.getfield 13, 3) := by decide +kernel
theorem dX7_about_67 : decode cX7_about 67 = .ok (.iload_n 1, 1) := by decide +kernel
theorem dX7_about_68 : decode cX7_about 68 = .ok (.iaload, 1) := by decide +kernel
theorem dX7_about_69 : decode cX7_about 69 = .ok (.ireturn, 1) := by decide +kernel
theorem dX7_about_70 : decode cX7_about 70 = .ok (.aload_n 0, 1) := by decide +kernel
theorem dX7_about_71 : decode cX7_about 71 = .ok (.getfield 16, 3) := by decide +kernel
theorem dX7_about_74 : decode cX7_about 74 = .ok (.iload_n 1, 1) := by decide +kernel
theorem dX7_about_75 : decode cX7_about 75 = .ok (.iaload, 1) := by decide +kernel
theorem dX7_about_76 : decode cX7_about 76 = .ok (.ireturn, 1) := by decide +kernel
theorem dX7_about_77 : decode cX7_about 77 = .ok (.aload_n 0, 1) := by decide +kernel
theorem dX7_about_78 : decode cX7_about 78 = .ok (.getfield 19, 3) := by decide +kernel
theorem dX7_about_81 : decode cX7_about 81 = .ok (.iload_n 1, 1) := by decide +kernel
theorem dX7_about_82 : decode cX7_about 82 = .ok (.iaload, 1) := by decide +kernel
theorem dX7_about_83 : decode cX7_about 83 = .ok (.ireturn, 1) := by decide +kernel
theorem dX7_about_84 : decode cX7_about 84 = .ok (.aload_n 0, 1) := by decide +kernel
theorem dX7_about_85 : decode cX7_about 85 = .ok (.getfield 22, 3) := by decide +kernel
theorem dX7_about_88 : decode cX7_about 88 = .ok (.iload_n 1, 1) := by decide +kernel
theorem dX7_about_89 : decode cX7_about 89 = .ok (.iaload, 1) := by decide +kernel
theorem dX7_about_90 : decode cX7_about 90 = .ok (.ireturn, 1) := by decide +kernel
theorem dX7_about_91 : decode cX7_about 91 = .ok (.aload_n 0, 1) := by decide +kernel
theorem dX7_about_92 : decode cX7_about 92 = .ok (.getfield 25, 3) := by decide +kernel
theorem dX7_about_95 : decode cX7_about 95 = .ok (.iload_n 1, 1) := by decide +kernel
theorem dX7_about_96 : decode cX7_about 96 = .ok (.baload, 1) := by decide +kernel
theorem dX7_about_97 : decode cX7_about 97 = .ok (.ifCond .eq 7, 3) := by decide +kernel
theorem dX7_about_100 : decode cX7_about 100 = .ok (.iconst 1, 1) := by decide +kernel
theorem dX7_about_101 : decode cX7_about 101 = .ok (.goto 4, 3) := by decide +kernel
theorem dX7_about_104 : decode cX7_about 104 = .ok (.iconst 0, 1) := by decide +kernel
theorem dX7_about_105 : decode cX7_about 105 = .ok (.ireturn, 1) := by decide +kernel
theorem dX7_about_106 : decode cX7_about 106 = .ok (.aload_n 0, 1) := by decide +kernel
theorem dX7_about_107 : decode cX7_about 107 = .ok (.getfield 29, 3) := by decide +kernel
theorem dX7_about_110 : decode cX7_about 110 = .ok (.iload_n 1, 1) := by decide +kernel
theorem dX7_about_111 : decode cX7_about 111 = .ok (.baload, 1) := by decide +kernel
theorem dX7_about_112 : decode cX7_about 112 = .ok (.ifCond .eq 7, 3) := by decide +kernel
theorem dX7_about_115 : decode cX7_about 115 = .ok (.iconst 1, 1) := by decide +kernel
theorem dX7_about_116 : decode cX7_about 116 = .ok (.goto 4, 3) := by decide +kernel
theorem dX7_about_119 : decode cX7_about 119 = .ok (.iconst 0, 1) := by decide +kernel
theorem dX7_about_120 : decode cX7_about 120 = .ok (.ireturn, 1) := by decide +kernel
theorem dX7_about_121 : decode cX7_about 121 = .ok (.aload_n 0, 1) := by decide +kernel
theorem dX7_about_122 : decode cX7_about 122 = .ok (.getfield 32, 3) := by decide +kernel
theorem dX7_about_125 : decode cX7_about 125 = .ok (.iload_n 1, 1) := by decide +kernel
theorem dX7_about_126 : decode cX7_about 126 = .ok (.iaload, 1) := by decide +kernel
theorem dX7_about_127 : decode cX7_about 127 = .ok (.ireturn, 1) := by decide +kernel
theorem dX7_about_128 : decode cX7_about 128 = .ok (.iconst (-1), 1) := by decide +kernel
theorem dX7_about_129 : decode cX7_about 129 = .ok (.ireturn, 1) := by decide +kernel
theorem dX7_posts_0 : decode cX7_posts 0 = .ok (.aload_n 0, 1) := by decide +kernel
theorem dX7_posts_1 : decode cX7_posts 1 = .ok (.getfield 89, 3) := by decide +kernel
theorem dX7_posts_4 : decode cX7_posts 4 = .ok (.aload_n 0, 1) := by decide +kernel
theorem dX7_posts_5 : decode cX7_posts 5 = .ok (.getfield 147, 3) := by decide +kernel
theorem dX7_posts_8 : decode cX7_posts 8 = .ok (.iload_n 1, 1) := by decide +kernel
theorem dX7_posts_9 : decode cX7_posts 9 = .ok (.iastore, 1) := by decide +kernel
theorem dX7_posts_10 : decode cX7_posts 10 = .ok (.aload_n 0, 1) := by decide +kernel
theorem dX7_posts_11 : decode cX7_posts 11 = .ok (.getfield 92, 3) := by decide +kernel
theorem dX7_posts_14 : decode cX7_posts 14 = .ok (.aload_n 0, 1) := by decide +kernel
theorem dX7_posts_15 : decode cX7_posts 15 = .ok (.getfield 147, 3) := by decide +kernel
theorem dX7_posts_18 : decode cX7_posts 18 = .ok (.iload_n 2, 1) := by decide +kernel
theorem dX7_posts_19 : decode cX7_posts 19 = .ok (.iastore, 1) := by decide +kernel
theorem dX7_posts_20 : decode cX7_posts 20 = .ok (.aload_n 0, 1) := by decide +kernel
theorem dX7_posts_21 : decode cX7_posts 21 = .ok (.getfield 95, 3) := by decide +kernel
theorem dX7_posts_24 : decode cX7_posts 24 = .ok (.aload_n 0, 1) := by decide +kernel
theorem dX7_posts_25 : decode cX7_posts 25 = .ok (.getfield 147, 3) := by decide +kernel
theorem dX7_posts_28 : decode cX7_posts 28 = .ok (.iload_n 3, 1) := by decide +kernel
theorem dX7_posts_29 : decode cX7_posts 29 = .ok (.iastore, 1) := by decide +kernel
theorem dX7_posts_30 : decode cX7_posts 30 = .ok (.aload_n 0, 1) := by decide +kernel
theorem dX7_posts_31 : decode cX7_posts 31 = .ok (.getfield 98, 3) := by decide +kernel
theorem dX7_posts_34 : decode cX7_posts 34 = .ok (.aload_n 0, 1) := by decide +kernel
theorem dX7_posts_35 : decode cX7_posts 35 = .ok (.getfield 147, 3) := by decide +kernel
theorem dX7_posts_38 : decode cX7_posts 38 = .ok (.iload 4, 2) := by decide +kernel
theorem dX7_posts_40 : decode cX7_posts 40 = .ok (.iastore, 1) := by decide +kernel
theorem dX7_posts_41 : decode cX7_posts 41 = .ok (.aload_n 0, 1) := by decide +kernel
theorem dX7_posts_42 : decode cX7_posts 42 = .ok (.getfield 101, 3) := by decide +kernel
theorem dX7_posts_45 : decode cX7_posts 45 = .ok (.aload_n 0, 1) := by decide +kernel
theorem dX7_posts_46 : decode cX7_posts 46 = .ok (.getfield 147, 3) := by decide +kernel
theorem dX7_posts_49 : decode cX7_posts 49 = .ok (.iload 5, 2) := by decide +kernel
theorem dX7_posts_51 : decode cX7_posts 51 = .ok (.iastore, 1) := by decide +kernel
theorem dX7_posts_52 : decode cX7_posts 52 = .ok (.aload_n 0, 1) := by decide +kernel
theorem dX7_posts_53 : decode cX7_posts 53 = .ok (.getfield 104, 3) := by decide +kernel
theorem dX7_posts_56 : decode cX7_posts 56 = .ok (.aload_n 0, 1) := by decide +kernel
theorem dX7_posts_57 : decode cX7_posts 57 = .ok (.getfield 147, 3) := by decide +kernel
theorem dX7_posts_60 : decode cX7_posts 60 = .ok (.iload 6, 2) := by decide +kernel
theorem dX7_posts_62 : decode cX7_posts 62 = .ok (.iastore, 1) := by decide +kernel
theorem dX7_posts_63 : decode cX7_posts 63 = .ok (.aload_n 0, 1) := by decide +kernel
theorem dX7_posts_64 : decode cX7_posts 64 = .ok (.getfield 107, 3) := by decide +kernel
theorem dX7_posts_67 : decode cX7_posts 67 = .ok (.aload_n 0, 1) := by decide +kernel
theorem dX7_posts_68 : decode cX7_posts 68 = .ok (.getfield 147, 3) := by decide +kernel
theorem dX7_posts_71 : decode cX7_posts 71 = .ok (.iload 7, 2) := by decide +kernel
theorem dX7_posts_73 : decode cX7_posts 73 = .ok (.iastore, 1) := by decide +kernel
theorem dX7_posts_74 : decode cX7_posts 74 = .ok (.aload_n 0, 1) := by decide +kernel
theorem dX7_posts_75 : decode cX7_posts 75 = .ok (.getfield 110, 3) := by decide +kernel
theorem dX7_posts_78 : decode cX7_posts 78 = .ok (.aload_n 0, 1) := by decide +kernel
theorem dX7_posts_79 : decode cX7_posts 79 = .ok (.getfield 147, 3) := by decide +kernel
theorem dX7_posts_82 : decode cX7_posts 82 = .ok (.iload 8, 2) := by decide +kernel
theorem dX7_posts_84 : decode cX7_posts 84 = .ok (.iastore, 1) := by decide +kernel
theorem dX7_posts_85 : decode cX7_posts 85 = .ok (.aload_n 0, 1) := by decide +kernel
theorem dX7_posts_86 : decode cX7_posts 86 = .ok (.getfield 113, 3) := by decide +kernel
theorem dX7_posts_89 : decode cX7_posts 89 = .ok (.aload_n 0, 1) := by decide +kernel
theorem dX7_posts_90 : decode cX7_posts 90 = .ok (.getfield 147, 3) := by decide +kernel
theorem dX7_posts_93 : decode cX7_posts 93 = .ok (.iload 9, 2) := by decide +kernel
theorem dX7_posts_95 : decode cX7_posts 95 = .ok (.bastore, 1) := by decide +kernel
theorem dX7_posts_96 : decode cX7_posts 96 = .ok (.aload_n 0, 1) := by decide +kernel
theorem dX7_posts_97 : decode cX7_posts 97 = .ok (.dup, 1) := by decide +kernel
theorem dX7_posts_98 : decode cX7_posts 98 = .ok (.getfield 147, 3) := by decide +kernel
theorem dX7_posts_101 : decode cX7_posts 101 = .ok (.iconst 1, 1) := by decide +kernel
theorem dX7_posts_102 : decode cX7_posts 102 = .ok (.iadd, 1) := by decide +kernel
theorem dX7_posts_103 : decode cX7_posts 103 = .ok (.putfield 147, 3) := by decide +kernel
theorem dX7_posts_106 : decode cX7_posts 106 = .ok (.return_, 1) := by decide +kernel
theorem dX7_sendsWhen_0 : decode cX7_sendsWhen 0 = .ok (.aload_n 0, 1) := by decide +kernel
theorem dX7_sendsWhen_1 : decode cX7_sendsWhen 1 = .ok (.getfield 116, 3) := by decide +kernel
theorem dX7_sendsWhen_4 : decode cX7_sendsWhen 4 = .ok (.iconst 4, 1) := by decide +kernel
theorem dX7_sendsWhen_5 : decode cX7_sendsWhen 5 = .ok (.iload_n 1, 1) := by decide +kernel
theorem dX7_sendsWhen_6 : decode cX7_sendsWhen 6 = .ok (.imul, 1) := by decide +kernel
theorem dX7_sendsWhen_7 : decode cX7_sendsWhen 7 = .ok (.aload_n 0, 1) := by decide +kernel
theorem dX7_sendsWhen_8 : decode cX7_sendsWhen 8 = .ok (.getfield 7, 3) := by decide +kernel
theorem dX7_sendsWhen_11 : decode cX7_sendsWhen 11 = .ok (.iload_n 2, 1) := by decide +kernel
theorem dX7_sendsWhen_12 : decode cX7_sendsWhen 12 = .ok (.iaload, 1) := by decide +kernel
theorem dX7_sendsWhen_13 : decode cX7_sendsWhen 13 = .ok (.iadd, 1) := by decide +kernel
theorem dX7_sendsWhen_14 : decode cX7_sendsWhen 14 = .ok (.baload, 1) := by decide +kernel
theorem dX7_sendsWhen_15 : decode cX7_sendsWhen 15 = .ok (.ifCond .ne 23, 3) := by decide +kernel
theorem dX7_sendsWhen_18 : decode cX7_sendsWhen 18 = .ok (.aload_n 0, 1) := by decide +kernel
theorem dX7_sendsWhen_19 : decode cX7_sendsWhen 19 = .ok (.iconst 2, 1) := by decide +kernel
theorem dX7_sendsWhen_20 : decode cX7_sendsWhen 20 = .ok (.iload_n 1, 1) := by decide +kernel
theorem dX7_sendsWhen_21 : decode cX7_sendsWhen 21 = .ok (.aload_n 0, 1) := by decide +kernel
theorem dX7_sendsWhen_22 : decode cX7_sendsWhen 22 = .ok (.getfield 7, 3) := by decide +kernel
theorem dX7_sendsWhen_25 : decode cX7_sendsWhen 25 = .ok (.iload_n 2, 1) := by decide +kernel
theorem dX7_sendsWhen_26 : decode cX7_sendsWhen 26 = .ok (.iaload, 1) := by decide +kernel
theorem dX7_sendsWhen_27 : decode cX7_sendsWhen 27 = .ok (.bipush (-9), 2) := by decide +kernel
theorem dX7_sendsWhen_29 : decode cX7_sendsWhen 29 = .ok (.iload_n 2, 1) := by decide +kernel
theorem dX7_sendsWhen_30 : decode cX7_sendsWhen 30 = .ok (.bipush (-9), 2) := by decide +kernel
theorem dX7_sendsWhen_32 : decode cX7_sendsWhen 32 = .ok (.iload_n 3, 1) := by decide +kernel
theorem dX7_sendsWhen_33 : decode cX7_sendsWhen 33 = .ok (.iconst 0, 1) := by decide +kernel
theorem dX7_sendsWhen_34 : decode cX7_sendsWhen 34 = .ok (.iconst 0, 1) := by decide +kernel
theorem dX7_sendsWhen_35 : decode cX7_sendsWhen 35 = .ok (.invokevirtual 150, 3) := by decide +kernel
theorem dX7_sendsWhen_38 : decode cX7_sendsWhen 38 = .ok (.return_, 1) := by decide +kernel
theorem dX7_postsWhen_0 : decode cX7_postsWhen 0 = .ok (.aload_n 0, 1) := by decide +kernel
theorem dX7_postsWhen_1 : decode cX7_postsWhen 1 = .ok (.getfield 86, 3) := by decide +kernel
theorem dX7_postsWhen_4 : decode cX7_postsWhen 4 = .ok (.iload_n 1, 1) := by decide +kernel
theorem dX7_postsWhen_5 : decode cX7_postsWhen 5 = .ok (.iconst 1, 1) := by decide +kernel
theorem dX7_postsWhen_6 : decode cX7_postsWhen 6 = .ok (.bastore, 1) := by decide +kernel
theorem dX7_postsWhen_7 : decode cX7_postsWhen 7 = .ok (.aload_n 0, 1) := by decide +kernel
theorem dX7_postsWhen_8 : decode cX7_postsWhen 8 = .ok (.aload_n 0, 1) := by decide +kernel
theorem dX7_postsWhen_9 : decode cX7_postsWhen 9 = .ok (.getfield 80, 3) := by decide +kernel
theorem dX7_postsWhen_12 : decode cX7_postsWhen 12 = .ok (.iload_n 1, 1) := by decide +kernel
theorem dX7_postsWhen_13 : decode cX7_postsWhen 13 = .ok (.iaload, 1) := by decide +kernel
theorem dX7_postsWhen_14 : decode cX7_postsWhen 14 = .ok (.aload_n 0, 1) := by decide +kernel
theorem dX7_postsWhen_15 : decode cX7_postsWhen 15 = .ok (.getfield 83, 3) := by decide +kernel
theorem dX7_postsWhen_18 : decode cX7_postsWhen 18 = .ok (.iload_n 1, 1) := by decide +kernel
theorem dX7_postsWhen_19 : decode cX7_postsWhen 19 = .ok (.iaload, 1) := by decide +kernel
theorem dX7_postsWhen_20 : decode cX7_postsWhen 20 = .ok (.iload_n 2, 1) := by decide +kernel
theorem dX7_postsWhen_21 : decode cX7_postsWhen 21 = .ok (.iconst 3, 1) := by decide +kernel
theorem dX7_postsWhen_22 : decode cX7_postsWhen 22 = .ok (.if_icmp .ne 8, 3) := by decide +kernel
theorem dX7_postsWhen_25 : decode cX7_postsWhen 25 = .ok (.iload_n 3, 1) := by decide +kernel
theorem dX7_postsWhen_26 : decode cX7_postsWhen 26 = .ok (.ineg, 1) := by decide +kernel
theorem dX7_postsWhen_27 : decode cX7_postsWhen 27 = .ok (.goto 4, 3) := by decide +kernel
theorem dX7_postsWhen_30 : decode cX7_postsWhen 30 = .ok (.iload_n 3, 1) := by decide +kernel
theorem dX7_postsWhen_31 : decode cX7_postsWhen 31 = .ok (.invokevirtual 154, 3) := by decide +kernel
theorem dX7_postsWhen_34 : decode cX7_postsWhen 34 = .ok (.return_, 1) := by decide +kernel
theorem dX7_postsWhens_0 : decode cX7_postsWhens 0 = .ok (.iconst 0, 1) := by decide +kernel
theorem dX7_postsWhens_1 : decode cX7_postsWhens 1 = .ok (.istore 5, 2) := by decide +kernel
theorem dX7_postsWhens_3 : decode cX7_postsWhens 3 = .ok (.iload 5, 2) := by decide +kernel
theorem dX7_postsWhens_5 : decode cX7_postsWhens 5 = .ok (.aload_n 0, 1) := by decide +kernel
theorem dX7_postsWhens_6 : decode cX7_postsWhens 6 = .ok (.getfield 158, 3) := by decide +kernel
theorem dX7_postsWhens_9 : decode cX7_postsWhens 9 = .ok (.if_icmp .ge 50, 3) := by decide +kernel
theorem dX7_postsWhens_12 : decode cX7_postsWhens 12 = .ok (.aload_n 0, 1) := by decide +kernel
theorem dX7_postsWhens_13 : decode cX7_postsWhens 13 = .ok (.getfield 77, 3) := by decide +kernel
theorem dX7_postsWhens_16 : decode cX7_postsWhens 16 = .ok (.iload 5, 2) := by decide +kernel
theorem dX7_postsWhens_18 : decode cX7_postsWhens 18 = .ok (.iaload, 1) := by decide +kernel
theorem dX7_postsWhens_19 : decode cX7_postsWhens 19 = .ok (.iload_n 1, 1) := by decide +kernel
theorem dX7_postsWhens_20 : decode cX7_postsWhens 20 = .ok (.if_icmp .ne 33, 3) := by decide +kernel
theorem dX7_postsWhens_23 : decode cX7_postsWhens 23 = .ok (.aload_n 0, 1) := by decide +kernel
theorem dX7_postsWhens_24 : decode cX7_postsWhens 24 = .ok (.getfield 80, 3) := by decide +kernel
theorem dX7_postsWhens_27 : decode cX7_postsWhens 27 = .ok (.iload 5, 2) := by decide +kernel
theorem dX7_postsWhens_29 : decode cX7_postsWhens 29 = .ok (.iaload, 1) := by decide +kernel
theorem dX7_postsWhens_30 : decode cX7_postsWhens 30 = .ok (.iload_n 2, 1) := by decide +kernel
theorem dX7_postsWhens_31 : decode cX7_postsWhens 31 = .ok (.if_icmp .ne 22, 3) := by decide +kernel
theorem dX7_postsWhens_34 : decode cX7_postsWhens 34 = .ok (.aload_n 0, 1) := by decide +kernel
theorem dX7_postsWhens_35 : decode cX7_postsWhens 35 = .ok (.getfield 86, 3) := by decide +kernel
theorem dX7_postsWhens_38 : decode cX7_postsWhens 38 = .ok (.iload 5, 2) := by decide +kernel
theorem dX7_postsWhens_40 : decode cX7_postsWhens 40 = .ok (.baload, 1) := by decide +kernel
theorem dX7_postsWhens_41 : decode cX7_postsWhens 41 = .ok (.ifCond .ne 12, 3) := by decide +kernel
theorem dX7_postsWhens_44 : decode cX7_postsWhens 44 = .ok (.aload_n 0, 1) := by decide +kernel
theorem dX7_postsWhens_45 : decode cX7_postsWhens 45 = .ok (.iload 5, 2) := by decide +kernel
theorem dX7_postsWhens_47 : decode cX7_postsWhens 47 = .ok (.iload_n 3, 1) := by decide +kernel
theorem dX7_postsWhens_48 : decode cX7_postsWhens 48 = .ok (.iload 4, 2) := by decide +kernel
theorem dX7_postsWhens_50 : decode cX7_postsWhens 50 = .ok (.invokevirtual 161, 3) := by decide +kernel
theorem dX7_postsWhens_53 : decode cX7_postsWhens 53 = .ok (.iinc 5 1, 3) := by decide +kernel
theorem dX7_postsWhens_56 : decode cX7_postsWhens 56 = .ok (.goto (-53), 3) := by decide +kernel
theorem dX7_postsWhens_59 : decode cX7_postsWhens 59 = .ok (.return_, 1) := by decide +kernel
theorem dX7_isToBeDone_0 : decode cX7_isToBeDone 0 = .ok (.aload_n 0, 1) := by decide +kernel
theorem dX7_isToBeDone_1 : decode cX7_isToBeDone 1 = .ok (.getfield 119, 3) := by decide +kernel
theorem dX7_isToBeDone_4 : decode cX7_isToBeDone 4 = .ok (.aload_n 0, 1) := by decide +kernel
theorem dX7_isToBeDone_5 : decode cX7_isToBeDone 5 = .ok (.getfield 164, 3) := by decide +kernel
theorem dX7_isToBeDone_8 : decode cX7_isToBeDone 8 = .ok (.iload_n 1, 1) := by decide +kernel
theorem dX7_isToBeDone_9 : decode cX7_isToBeDone 9 = .ok (.iastore, 1) := by decide +kernel
theorem dX7_isToBeDone_10 : decode cX7_isToBeDone 10 = .ok (.aload_n 0, 1) := by decide +kernel
theorem dX7_isToBeDone_11 : decode cX7_isToBeDone 11 = .ok (.getfield 122, 3) := by decide +kernel
theorem dX7_isToBeDone_14 : decode cX7_isToBeDone 14 = .ok (.aload_n 0, 1) := by decide +kernel
theorem dX7_isToBeDone_15 : decode cX7_isToBeDone 15 = .ok (.getfield 164, 3) := by decide +kernel
theorem dX7_isToBeDone_18 : decode cX7_isToBeDone 18 = .ok (.iload_n 2, 1) := by decide +kernel
theorem dX7_isToBeDone_19 : decode cX7_isToBeDone 19 = .ok (.iastore, 1) := by decide +kernel
theorem dX7_isToBeDone_20 : decode cX7_isToBeDone 20 = .ok (.aload_n 0, 1) := by decide +kernel
theorem dX7_isToBeDone_21 : decode cX7_isToBeDone 21 = .ok (.getfield 125, 3) := by decide +kernel
theorem dX7_isToBeDone_24 : decode cX7_isToBeDone 24 = .ok (.aload_n 0, 1) := by decide +kernel
theorem dX7_isToBeDone_25 : decode cX7_isToBeDone 25 = .ok (.getfield 164, 3) := by decide +kernel
theorem dX7_isToBeDone_28 : decode cX7_isToBeDone 28 = .ok (.iload_n 3, 1) := by decide +kernel
theorem dX7_isToBeDone_29 : decode cX7_isToBeDone 29 = .ok (.iastore, 1) := by decide +kernel
theorem dX7_isToBeDone_30 : decode cX7_isToBeDone 30 = .ok (.aload_n 0, 1) := by decide +kernel
theorem dX7_isToBeDone_31 : decode cX7_isToBeDone 31 = .ok (.dup, 1) := by decide +kernel
theorem dX7_isToBeDone_32 : decode cX7_isToBeDone 32 = .ok (.getfield 164, 3) := by decide +kernel
theorem dX7_isToBeDone_35 : decode cX7_isToBeDone 35 = .ok (.iconst 1, 1) := by decide +kernel
theorem dX7_isToBeDone_36 : decode cX7_isToBeDone 36 = .ok (.iadd, 1) := by decide +kernel
theorem dX7_isToBeDone_37 : decode cX7_isToBeDone 37 = .ok (.putfield 164, 3) := by decide +kernel
theorem dX7_isToBeDone_40 : decode cX7_isToBeDone 40 = .ok (.return_, 1) := by decide +kernel
theorem dX7_arrives_0 : decode cX7_arrives 0 = .ok (.aload_n 0, 1) := by decide +kernel
theorem dX7_arrives_1 : decode cX7_arrives 1 = .ok (.getfield 47, 3) := by decide +kernel
theorem dX7_arrives_4 : decode cX7_arrives 4 = .ok (.iload_n 1, 1) := by decide +kernel
theorem dX7_arrives_5 : decode cX7_arrives 5 = .ok (.iload_n 2, 1) := by decide +kernel
theorem dX7_arrives_6 : decode cX7_arrives 6 = .ok (.iastore, 1) := by decide +kernel
theorem dX7_arrives_7 : decode cX7_arrives 7 = .ok (.aload_n 0, 1) := by decide +kernel
theorem dX7_arrives_8 : decode cX7_arrives 8 = .ok (.getfield 50, 3) := by decide +kernel
theorem dX7_arrives_11 : decode cX7_arrives 11 = .ok (.iload_n 1, 1) := by decide +kernel
theorem dX7_arrives_12 : decode cX7_arrives 12 = .ok (.iload_n 3, 1) := by decide +kernel
theorem dX7_arrives_13 : decode cX7_arrives 13 = .ok (.iastore, 1) := by decide +kernel
theorem dX7_arrives_14 : decode cX7_arrives 14 = .ok (.aload_n 0, 1) := by decide +kernel
theorem dX7_arrives_15 : decode cX7_arrives 15 = .ok (.iload_n 1, 1) := by decide +kernel
theorem dX7_arrives_16 : decode cX7_arrives 16 = .ok (.aload_n 0, 1) := by decide +kernel
theorem dX7_arrives_17 : decode cX7_arrives 17 = .ok (.getfield 35, 3) := by decide +kernel
theorem dX7_arrives_20 : decode cX7_arrives 20 = .ok (.iload_n 1, 1) := by decide +kernel
theorem dX7_arrives_21 : decode cX7_arrives 21 = .ok (.iaload, 1) := by decide +kernel
theorem dX7_arrives_22 : decode cX7_arrives 22 = .ok (.iload_n 2, 1) := by decide +kernel
theorem dX7_arrives_23 : decode cX7_arrives 23 = .ok (.iload_n 3, 1) := by decide +kernel
theorem dX7_arrives_24 : decode cX7_arrives 24 = .ok (.invokevirtual 167, 3) := by decide +kernel
theorem dX7_arrives_27 : decode cX7_arrives 27 = .ok (.return_, 1) := by decide +kernel
theorem dX7_comesBack_0 : decode cX7_comesBack 0 = .ok (.iload 4, 2) := by decide +kernel
theorem dX7_comesBack_2 : decode cX7_comesBack 2 = .ok (.ifCond .eq 13, 3) := by decide +kernel
theorem dX7_comesBack_5 : decode cX7_comesBack 5 = .ok (.aload_n 0, 1) := by decide +kernel
theorem dX7_comesBack_6 : decode cX7_comesBack 6 = .ok (.iload_n 1, 1) := by decide +kernel
theorem dX7_comesBack_7 : decode cX7_comesBack 7 = .ok (.iload_n 2, 1) := by decide +kernel
theorem dX7_comesBack_8 : decode cX7_comesBack 8 = .ok (.iload_n 3, 1) := by decide +kernel
theorem dX7_comesBack_9 : decode cX7_comesBack 9 = .ok (.invokevirtual 171, 3) := by decide +kernel
theorem dX7_comesBack_12 : decode cX7_comesBack 12 = .ok (.goto 10, 3) := by decide +kernel
theorem dX7_comesBack_15 : decode cX7_comesBack 15 = .ok (.aload_n 0, 1) := by decide +kernel
theorem dX7_comesBack_16 : decode cX7_comesBack 16 = .ok (.iload_n 1, 1) := by decide +kernel
theorem dX7_comesBack_17 : decode cX7_comesBack 17 = .ok (.iload_n 2, 1) := by decide +kernel
theorem dX7_comesBack_18 : decode cX7_comesBack 18 = .ok (.iload_n 3, 1) := by decide +kernel
theorem dX7_comesBack_19 : decode cX7_comesBack 19 = .ok (.invokevirtual 174, 3) := by decide +kernel
theorem dX7_comesBack_22 : decode cX7_comesBack 22 = .ok (.return_, 1) := by decide +kernel
theorem dX7_sendsAnswer_0 : decode cX7_sendsAnswer 0 = .ok (.iload 5, 2) := by decide +kernel
theorem dX7_sendsAnswer_2 : decode cX7_sendsAnswer 2 = .ok (.ifCond .eq 12, 3) := by decide +kernel
theorem dX7_sendsAnswer_5 : decode cX7_sendsAnswer 5 = .ok (.aload_n 0, 1) := by decide +kernel
theorem dX7_sendsAnswer_6 : decode cX7_sendsAnswer 6 = .ok (.getfield 35, 3) := by decide +kernel
theorem dX7_sendsAnswer_9 : decode cX7_sendsAnswer 9 = .ok (.iload_n 2, 1) := by decide +kernel
theorem dX7_sendsAnswer_10 : decode cX7_sendsAnswer 10 = .ok (.iaload, 1) := by decide +kernel
theorem dX7_sendsAnswer_11 : decode cX7_sendsAnswer 11 = .ok (.goto 9, 3) := by decide +kernel
theorem dX7_sendsAnswer_14 : decode cX7_sendsAnswer 14 = .ok (.aload_n 0, 1) := by decide +kernel
theorem dX7_sendsAnswer_15 : decode cX7_sendsAnswer 15 = .ok (.getfield 38, 3) := by decide +kernel
theorem dX7_sendsAnswer_18 : decode cX7_sendsAnswer 18 = .ok (.iload_n 2, 1) := by decide +kernel
theorem dX7_sendsAnswer_19 : decode cX7_sendsAnswer 19 = .ok (.iaload, 1) := by decide +kernel
theorem dX7_sendsAnswer_20 : decode cX7_sendsAnswer 20 = .ok (.istore 6, 2) := by decide +kernel
theorem dX7_sendsAnswer_22 : decode cX7_sendsAnswer 22 = .ok (.aload_n 0, 1) := by decide +kernel
theorem dX7_sendsAnswer_23 : decode cX7_sendsAnswer 23 = .ok (.getfield 53, 3) := by decide +kernel
theorem dX7_sendsAnswer_26 : decode cX7_sendsAnswer 26 = .ok (.iload_n 2, 1) := by decide +kernel
theorem dX7_sendsAnswer_27 : decode cX7_sendsAnswer 27 = .ok (.dup2, 1) := by decide +kernel
theorem dX7_sendsAnswer_28 : decode cX7_sendsAnswer 28 = .ok (.iaload, 1) := by decide +kernel
theorem dX7_sendsAnswer_29 : decode cX7_sendsAnswer 29 = .ok (.iconst 1, 1) := by decide +kernel
theorem dX7_sendsAnswer_30 : decode cX7_sendsAnswer 30 = .ok (.iadd, 1) := by decide +kernel
theorem dX7_sendsAnswer_31 : decode cX7_sendsAnswer 31 = .ok (.iastore, 1) := by decide +kernel
theorem dX7_sendsAnswer_32 : decode cX7_sendsAnswer 32 = .ok (.aload_n 0, 1) := by decide +kernel
theorem dX7_sendsAnswer_33 : decode cX7_sendsAnswer 33 = .ok (.getfield 116, 3) := by decide +kernel
theorem dX7_sendsAnswer_36 : decode cX7_sendsAnswer 36 = .ok (.iconst 4, 1) := by decide +kernel
theorem dX7_sendsAnswer_37 : decode cX7_sendsAnswer 37 = .ok (.iload_n 1, 1) := by decide +kernel
theorem dX7_sendsAnswer_38 : decode cX7_sendsAnswer 38 = .ok (.imul, 1) := by decide +kernel
theorem dX7_sendsAnswer_39 : decode cX7_sendsAnswer 39 = .ok (.iload 6, 2) := by decide +kernel
theorem dX7_sendsAnswer_41 : decode cX7_sendsAnswer 41 = .ok (.iadd, 1) := by decide +kernel
theorem dX7_sendsAnswer_42 : decode cX7_sendsAnswer 42 = .ok (.baload, 1) := by decide +kernel
theorem dX7_sendsAnswer_43 : decode cX7_sendsAnswer 43 = .ok (.ifCond .eq 15, 3) := by decide +kernel
theorem dX7_sendsAnswer_46 : decode cX7_sendsAnswer 46 = .ok (.aload_n 0, 1) := by decide +kernel
theorem dX7_sendsAnswer_47 : decode cX7_sendsAnswer 47 = .ok (.iload_n 2, 1) := by decide +kernel
theorem dX7_sendsAnswer_48 : decode cX7_sendsAnswer 48 = .ok (.iconst 3, 1) := by decide +kernel
theorem dX7_sendsAnswer_49 : decode cX7_sendsAnswer 49 = .ok (.iconst 1, 1) := by decide +kernel
theorem dX7_sendsAnswer_50 : decode cX7_sendsAnswer 50 = .ok (.iload 5, 2) := by decide +kernel
theorem dX7_sendsAnswer_52 : decode cX7_sendsAnswer 52 = .ok (.invokevirtual 177, 3) := by decide +kernel
theorem dX7_sendsAnswer_55 : decode cX7_sendsAnswer 55 = .ok (.goto 21, 3) := by decide +kernel
theorem dX7_sendsAnswer_58 : decode cX7_sendsAnswer 58 = .ok (.aload_n 0, 1) := by decide +kernel
theorem dX7_sendsAnswer_59 : decode cX7_sendsAnswer 59 = .ok (.iconst 1, 1) := by decide +kernel
theorem dX7_sendsAnswer_60 : decode cX7_sendsAnswer 60 = .ok (.iload_n 1, 1) := by decide +kernel
theorem dX7_sendsAnswer_61 : decode cX7_sendsAnswer 61 = .ok (.iload 6, 2) := by decide +kernel
theorem dX7_sendsAnswer_63 : decode cX7_sendsAnswer 63 = .ok (.iload_n 2, 1) := by decide +kernel
theorem dX7_sendsAnswer_64 : decode cX7_sendsAnswer 64 = .ok (.bipush (-9), 2) := by decide +kernel
theorem dX7_sendsAnswer_66 : decode cX7_sendsAnswer 66 = .ok (.bipush (-9), 2) := by decide +kernel
theorem dX7_sendsAnswer_68 : decode cX7_sendsAnswer 68 = .ok (.iload_n 3, 1) := by decide +kernel
theorem dX7_sendsAnswer_69 : decode cX7_sendsAnswer 69 = .ok (.iload 4, 2) := by decide +kernel
theorem dX7_sendsAnswer_71 : decode cX7_sendsAnswer 71 = .ok (.iload 5, 2) := by decide +kernel
theorem dX7_sendsAnswer_73 : decode cX7_sendsAnswer 73 = .ok (.invokevirtual 150, 3) := by decide +kernel
theorem dX7_sendsAnswer_76 : decode cX7_sendsAnswer 76 = .ok (.return_, 1) := by decide +kernel
theorem dX7_settles_0 : decode cX7_settles 0 = .ok (.aload_n 0, 1) := by decide +kernel
theorem dX7_settles_1 : decode cX7_settles 1 = .ok (.getfield 56, 3) := by decide +kernel
theorem dX7_settles_4 : decode cX7_settles 4 = .ok (.iload_n 1, 1) := by decide +kernel
theorem dX7_settles_5 : decode cX7_settles 5 = .ok (.iconst 0, 1) := by decide +kernel
theorem dX7_settles_6 : decode cX7_settles 6 = .ok (.iastore, 1) := by decide +kernel
theorem dX7_settles_7 : decode cX7_settles 7 = .ok (.iload_n 2, 1) := by decide +kernel
theorem dX7_settles_8 : decode cX7_settles 8 = .ok (.aload_n 0, 1) := by decide +kernel
theorem dX7_settles_9 : decode cX7_settles 9 = .ok (.getfield 38, 3) := by decide +kernel
theorem dX7_settles_12 : decode cX7_settles 12 = .ok (.iload_n 1, 1) := by decide +kernel
theorem dX7_settles_13 : decode cX7_settles 13 = .ok (.iaload, 1) := by decide +kernel
theorem dX7_settles_14 : decode cX7_settles 14 = .ok (.if_icmp .ne 14, 3) := by decide +kernel
theorem dX7_settles_17 : decode cX7_settles 17 = .ok (.aload_n 0, 1) := by decide +kernel
theorem dX7_settles_18 : decode cX7_settles 18 = .ok (.iload_n 1, 1) := by decide +kernel
theorem dX7_settles_19 : decode cX7_settles 19 = .ok (.iload_n 3, 1) := by decide +kernel
theorem dX7_settles_20 : decode cX7_settles 20 = .ok (.iload 4, 2) := by decide +kernel
theorem dX7_settles_22 : decode cX7_settles 22 = .ok (.invokevirtual 174, 3) := by decide +kernel
theorem dX7_settles_25 : decode cX7_settles 25 = .ok (.goto 13, 3) := by decide +kernel
theorem dX7_settles_28 : decode cX7_settles 28 = .ok (.aload_n 0, 1) := by decide +kernel
theorem dX7_settles_29 : decode cX7_settles 29 = .ok (.iload_n 2, 1) := by decide +kernel
theorem dX7_settles_30 : decode cX7_settles 30 = .ok (.iload_n 1, 1) := by decide +kernel
theorem dX7_settles_31 : decode cX7_settles 31 = .ok (.iload_n 3, 1) := by decide +kernel
theorem dX7_settles_32 : decode cX7_settles 32 = .ok (.iload 4, 2) := by decide +kernel
theorem dX7_settles_34 : decode cX7_settles 34 = .ok (.iconst 0, 1) := by decide +kernel
theorem dX7_settles_35 : decode cX7_settles 35 = .ok (.invokevirtual 181, 3) := by decide +kernel
theorem dX7_settles_38 : decode cX7_settles 38 = .ok (.return_, 1) := by decide +kernel
theorem dX7_losesMessage_0 : decode cX7_losesMessage 0 = .ok (.aload_n 0, 1) := by decide +kernel
theorem dX7_losesMessage_1 : decode cX7_losesMessage 1 = .ok (.getfield 68, 3) := by decide +kernel
theorem dX7_losesMessage_4 : decode cX7_losesMessage 4 = .ok (.iload_n 1, 1) := by decide +kernel
theorem dX7_losesMessage_5 : decode cX7_losesMessage 5 = .ok (.iaload, 1) := by decide +kernel
theorem dX7_losesMessage_6 : decode cX7_losesMessage 6 = .ok (.ifCond .lt 30, 3) := by decide +kernel
theorem dX7_losesMessage_9 : decode cX7_losesMessage 9 = .ok (.aload_n 0, 1) := by decide +kernel
theorem dX7_losesMessage_10 : decode cX7_losesMessage 10 = .ok (.getfield 16, 3) := by decide +kernel
theorem dX7_losesMessage_13 : decode cX7_losesMessage 13 = .ok (.aload_n 0, 1) := by decide +kernel
theorem dX7_losesMessage_14 : decode cX7_losesMessage 14 = .ok (.getfield 68, 3) := by decide +kernel
theorem dX7_losesMessage_17 : decode cX7_losesMessage 17 = .ok (.iload_n 1, 1) := by decide +kernel
theorem dX7_losesMessage_18 : decode cX7_losesMessage 18 = .ok (.iaload, 1) := by decide +kernel
theorem dX7_losesMessage_19 : decode cX7_losesMessage 19 = .ok (.dup2, 1) := by decide +kernel
theorem dX7_losesMessage_20 : decode cX7_losesMessage 20 = .ok (.iaload, 1) := by decide +kernel
theorem dX7_losesMessage_21 : decode cX7_losesMessage 21 = .ok (.aload_n 0, 1) := by decide +kernel
theorem dX7_losesMessage_22 : decode cX7_losesMessage 22 = .ok (.getfield 62, 3) := by decide +kernel
theorem dX7_losesMessage_25 : decode cX7_losesMessage 25 = .ok (.iload_n 1, 1) := by decide +kernel
theorem dX7_losesMessage_26 : decode cX7_losesMessage 26 = .ok (.iaload, 1) := by decide +kernel
theorem dX7_losesMessage_27 : decode cX7_losesMessage 27 = .ok (.iadd, 1) := by decide +kernel
theorem dX7_losesMessage_28 : decode cX7_losesMessage 28 = .ok (.iastore, 1) := by decide +kernel
theorem dX7_losesMessage_29 : decode cX7_losesMessage 29 = .ok (.aload_n 0, 1) := by decide +kernel
theorem dX7_losesMessage_30 : decode cX7_losesMessage 30 = .ok (.getfield 68, 3) := by decide +kernel
theorem dX7_losesMessage_33 : decode cX7_losesMessage 33 = .ok (.iload_n 1, 1) := by decide +kernel
theorem dX7_losesMessage_34 : decode cX7_losesMessage 34 = .ok (.iconst (-1), 1) := by decide +kernel
theorem dX7_losesMessage_35 : decode cX7_losesMessage 35 = .ok (.iastore, 1) := by decide +kernel
theorem dX7_losesMessage_36 : decode cX7_losesMessage 36 = .ok (.aload_n 0, 1) := by decide +kernel
theorem dX7_losesMessage_37 : decode cX7_losesMessage 37 = .ok (.iload_n 1, 1) := by decide +kernel
theorem dX7_losesMessage_38 : decode cX7_losesMessage 38 = .ok (.iload_n 2, 1) := by decide +kernel
theorem dX7_losesMessage_39 : decode cX7_losesMessage 39 = .ok (.iconst 3, 1) := by decide +kernel
theorem dX7_losesMessage_40 : decode cX7_losesMessage 40 = .ok (.iconst 1, 1) := by decide +kernel
theorem dX7_losesMessage_41 : decode cX7_losesMessage 41 = .ok (.invokevirtual 185, 3) := by decide +kernel
theorem dX7_losesMessage_44 : decode cX7_losesMessage 44 = .ok (.return_, 1) := by decide +kernel
theorem dX7_sends_0 : decode cX7_sends 0 = .ok (.aload_n 0, 1) := by decide +kernel
theorem dX7_sends_1 : decode cX7_sends 1 = .ok (.getfield 53, 3) := by decide +kernel
theorem dX7_sends_4 : decode cX7_sends 4 = .ok (.iload_n 1, 1) := by decide +kernel
theorem dX7_sends_5 : decode cX7_sends 5 = .ok (.dup2, 1) := by decide +kernel
theorem dX7_sends_6 : decode cX7_sends 6 = .ok (.iaload, 1) := by decide +kernel
theorem dX7_sends_7 : decode cX7_sends 7 = .ok (.iconst 1, 1) := by decide +kernel
theorem dX7_sends_8 : decode cX7_sends 8 = .ok (.iadd, 1) := by decide +kernel
theorem dX7_sends_9 : decode cX7_sends 9 = .ok (.iastore, 1) := by decide +kernel
theorem dX7_sends_10 : decode cX7_sends 10 = .ok (.aload_n 0, 1) := by decide +kernel
theorem dX7_sends_11 : decode cX7_sends 11 = .ok (.getfield 116, 3) := by decide +kernel
theorem dX7_sends_14 : decode cX7_sends 14 = .ok (.iconst 4, 1) := by decide +kernel
theorem dX7_sends_15 : decode cX7_sends 15 = .ok (.iload_n 2, 1) := by decide +kernel
theorem dX7_sends_16 : decode cX7_sends 16 = .ok (.imul, 1) := by decide +kernel
theorem dX7_sends_17 : decode cX7_sends 17 = .ok (.iload_n 3, 1) := by decide +kernel
theorem dX7_sends_18 : decode cX7_sends 18 = .ok (.iadd, 1) := by decide +kernel
theorem dX7_sends_19 : decode cX7_sends 19 = .ok (.baload, 1) := by decide +kernel
theorem dX7_sends_20 : decode cX7_sends 20 = .ok (.ifCond .eq 12, 3) := by decide +kernel
theorem dX7_sends_23 : decode cX7_sends 23 = .ok (.aload_n 0, 1) := by decide +kernel
theorem dX7_sends_24 : decode cX7_sends 24 = .ok (.iload_n 1, 1) := by decide +kernel
theorem dX7_sends_25 : decode cX7_sends 25 = .ok (.iload_n 2, 1) := by decide +kernel
theorem dX7_sends_26 : decode cX7_sends 26 = .ok (.invokevirtual 188, 3) := by decide +kernel
theorem dX7_sends_29 : decode cX7_sends 29 = .ok (.goto 25, 3) := by decide +kernel
theorem dX7_sends_32 : decode cX7_sends 32 = .ok (.aload_n 0, 1) := by decide +kernel
theorem dX7_sends_33 : decode cX7_sends 33 = .ok (.getfield 56, 3) := by decide +kernel
theorem dX7_sends_36 : decode cX7_sends 36 = .ok (.iload_n 1, 1) := by decide +kernel
theorem dX7_sends_37 : decode cX7_sends 37 = .ok (.iconst 3, 1) := by decide +kernel
theorem dX7_sends_38 : decode cX7_sends 38 = .ok (.iastore, 1) := by decide +kernel
theorem dX7_sends_39 : decode cX7_sends 39 = .ok (.aload_n 0, 1) := by decide +kernel
theorem dX7_sends_40 : decode cX7_sends 40 = .ok (.iconst 0, 1) := by decide +kernel
theorem dX7_sends_41 : decode cX7_sends 41 = .ok (.iload_n 2, 1) := by decide +kernel
theorem dX7_sends_42 : decode cX7_sends 42 = .ok (.iload_n 3, 1) := by decide +kernel
theorem dX7_sends_43 : decode cX7_sends 43 = .ok (.iload_n 1, 1) := by decide +kernel
theorem dX7_sends_44 : decode cX7_sends 44 = .ok (.iload 4, 2) := by decide +kernel
theorem dX7_sends_46 : decode cX7_sends 46 = .ok (.iload 5, 2) := by decide +kernel
theorem dX7_sends_48 : decode cX7_sends 48 = .ok (.iconst 0, 1) := by decide +kernel
theorem dX7_sends_49 : decode cX7_sends 49 = .ok (.iconst 0, 1) := by decide +kernel
theorem dX7_sends_50 : decode cX7_sends 50 = .ok (.iconst 0, 1) := by decide +kernel
theorem dX7_sends_51 : decode cX7_sends 51 = .ok (.invokevirtual 150, 3) := by decide +kernel
theorem dX7_sends_54 : decode cX7_sends 54 = .ok (.return_, 1) := by decide +kernel
theorem dX7_sendsToThing_0 : decode cX7_sendsToThing 0 = .ok (.aload_n 0, 1) := by decide +kernel
theorem dX7_sendsToThing_1 : decode cX7_sendsToThing 1 = .ok (.iload_n 1, 1) := by decide +kernel
theorem dX7_sendsToThing_2 : decode cX7_sendsToThing 2 = .ok (.iload_n 2, 1) := by decide +kernel
theorem dX7_sendsToThing_3 : decode cX7_sendsToThing 3 = .ok (.aload_n 0, 1) := by decide +kernel
theorem dX7_sendsToThing_4 : decode cX7_sendsToThing 4 = .ok (.getfield 7, 3) := by decide +kernel
theorem dX7_sendsToThing_7 : decode cX7_sendsToThing 7 = .ok (.iload_n 3, 1) := by decide +kernel
theorem dX7_sendsToThing_8 : decode cX7_sendsToThing 8 = .ok (.iaload, 1) := by decide +kernel
theorem dX7_sendsToThing_9 : decode cX7_sendsToThing 9 = .ok (.iload_n 3, 1) := by decide +kernel
theorem dX7_sendsToThing_10 : decode cX7_sendsToThing 10 = .ok (.bipush (-9), 2) := by decide +kernel
theorem dX7_sendsToThing_12 : decode cX7_sendsToThing 12 = .ok (.invokevirtual 192, 3) := by decide +kernel
theorem dX7_sendsToThing_15 : decode cX7_sendsToThing 15 = .ok (.return_, 1) := by decide +kernel
theorem dX7_goesOn_0 : decode cX7_goesOn 0 = .ok (.iload_n 3, 1) := by decide +kernel
theorem dX7_goesOn_1 : decode cX7_goesOn 1 = .ok (.iconst 2, 1) := by decide +kernel
theorem dX7_goesOn_2 : decode cX7_goesOn 2 = .ok (.if_icmp .ne 14, 3) := by decide +kernel
theorem dX7_goesOn_5 : decode cX7_goesOn 5 = .ok (.aload_n 0, 1) := by decide +kernel
theorem dX7_goesOn_6 : decode cX7_goesOn 6 = .ok (.iload_n 1, 1) := by decide +kernel
theorem dX7_goesOn_7 : decode cX7_goesOn 7 = .ok (.iload_n 2, 1) := by decide +kernel
theorem dX7_goesOn_8 : decode cX7_goesOn 8 = .ok (.iload 4, 2) := by decide +kernel
theorem dX7_goesOn_10 : decode cX7_goesOn 10 = .ok (.invokevirtual 196, 3) := by decide +kernel
theorem dX7_goesOn_13 : decode cX7_goesOn 13 = .ok (.goto 21, 3) := by decide +kernel
theorem dX7_goesOn_16 : decode cX7_goesOn 16 = .ok (.aload_n 0, 1) := by decide +kernel
theorem dX7_goesOn_17 : decode cX7_goesOn 17 = .ok (.iload_n 1, 1) := by decide +kernel
theorem dX7_goesOn_18 : decode cX7_goesOn 18 = .ok (.iload_n 2, 1) := by decide +kernel
theorem dX7_goesOn_19 : decode cX7_goesOn 19 = .ok (.iconst 3, 1) := by decide +kernel
theorem dX7_goesOn_20 : decode cX7_goesOn 20 = .ok (.iload_n 3, 1) := by decide +kernel
theorem dX7_goesOn_21 : decode cX7_goesOn 21 = .ok (.iconst 1, 1) := by decide +kernel
theorem dX7_goesOn_22 : decode cX7_goesOn 22 = .ok (.if_icmp .ne 7, 3) := by decide +kernel
theorem dX7_goesOn_25 : decode cX7_goesOn 25 = .ok (.iconst 3, 1) := by decide +kernel
theorem dX7_goesOn_26 : decode cX7_goesOn 26 = .ok (.goto 5, 3) := by decide +kernel
theorem dX7_goesOn_29 : decode cX7_goesOn 29 = .ok (.iload 4, 2) := by decide +kernel
theorem dX7_goesOn_31 : decode cX7_goesOn 31 = .ok (.invokevirtual 185, 3) := by decide +kernel
theorem dX7_goesOn_34 : decode cX7_goesOn 34 = .ok (.return_, 1) := by decide +kernel
theorem dX7_firstKept_0 : decode cX7_firstKept 0 = .ok (.iconst (-1), 1) := by decide +kernel
theorem dX7_firstKept_1 : decode cX7_firstKept 1 = .ok (.istore_n 3, 1) := by decide +kernel
theorem dX7_firstKept_2 : decode cX7_firstKept 2 = .ok (.iconst 0, 1) := by decide +kernel
theorem dX7_firstKept_3 : decode cX7_firstKept 3 = .ok (.istore 4, 2) := by decide +kernel
theorem dX7_firstKept_5 : decode cX7_firstKept 5 = .ok (.iload 4, 2) := by decide +kernel
theorem dX7_firstKept_7 : decode cX7_firstKept 7 = .ok (.aload_n 0, 1) := by decide +kernel
theorem dX7_firstKept_8 : decode cX7_firstKept 8 = .ok (.getfield 136, 3) := by decide +kernel
theorem dX7_firstKept_11 : decode cX7_firstKept 11 = .ok (.if_icmp .ge 70, 3) := by decide +kernel
theorem dX7_firstKept_14 : decode cX7_firstKept 14 = .ok (.aload_n 0, 1) := by decide +kernel
theorem dX7_firstKept_15 : decode cX7_firstKept 15 = .ok (.getfield 56, 3) := by decide +kernel
theorem dX7_firstKept_18 : decode cX7_firstKept 18 = .ok (.iload 4, 2) := by decide +kernel
theorem dX7_firstKept_20 : decode cX7_firstKept 20 = .ok (.iaload, 1) := by decide +kernel
theorem dX7_firstKept_21 : decode cX7_firstKept 21 = .ok (.iload_n 1, 1) := by decide +kernel
theorem dX7_firstKept_22 : decode cX7_firstKept 22 = .ok (.if_icmp .ne 18, 3) := by decide +kernel
theorem dX7_firstKept_25 : decode cX7_firstKept 25 = .ok (.aload_n 0, 1) := by decide +kernel
theorem dX7_firstKept_26 : decode cX7_firstKept 26 = .ok (.getfield 71, 3) := by decide +kernel
theorem dX7_firstKept_29 : decode cX7_firstKept 29 = .ok (.iload 4, 2) := by decide +kernel
theorem dX7_firstKept_31 : decode cX7_firstKept 31 = .ok (.iaload, 1) := by decide +kernel
theorem dX7_firstKept_32 : decode cX7_firstKept 32 = .ok (.iload_n 2, 1) := by decide +kernel
theorem dX7_firstKept_33 : decode cX7_firstKept 33 = .ok (.if_icmp .ne 7, 3) := by decide +kernel
theorem dX7_firstKept_36 : decode cX7_firstKept 36 = .ok (.iconst 1, 1) := by decide +kernel
theorem dX7_firstKept_37 : decode cX7_firstKept 37 = .ok (.goto 4, 3) := by decide +kernel
theorem dX7_firstKept_40 : decode cX7_firstKept 40 = .ok (.iconst 0, 1) := by decide +kernel
theorem dX7_firstKept_41 : decode cX7_firstKept 41 = .ok (.istore 5, 2) := by decide +kernel
theorem dX7_firstKept_43 : decode cX7_firstKept 43 = .ok (.iload 5, 2) := by decide +kernel
theorem dX7_firstKept_45 : decode cX7_firstKept 45 = .ok (.ifCond .eq 28, 3) := by decide +kernel
theorem dX7_firstKept_48 : decode cX7_firstKept 48 = .ok (.iload_n 3, 1) := by decide +kernel
theorem dX7_firstKept_49 : decode cX7_firstKept 49 = .ok (.ifCond .lt 19, 3) := by decide +kernel
theorem dX7_firstKept_52 : decode cX7_firstKept 52 = .ok (.aload_n 0, 1) := by decide +kernel
theorem dX7_firstKept_53 : decode cX7_firstKept 53 = .ok (.getfield 74, 3) := by decide +kernel
theorem dX7_firstKept_56 : decode cX7_firstKept 56 = .ok (.iload 4, 2) := by decide +kernel
theorem dX7_firstKept_58 : decode cX7_firstKept 58 = .ok (.iaload, 1) := by decide +kernel
theorem dX7_firstKept_59 : decode cX7_firstKept 59 = .ok (.aload_n 0, 1) := by decide +kernel
theorem dX7_firstKept_60 : decode cX7_firstKept 60 = .ok (.getfield 74, 3) := by decide +kernel
theorem dX7_firstKept_63 : decode cX7_firstKept 63 = .ok (.iload_n 3, 1) := by decide +kernel
theorem dX7_firstKept_64 : decode cX7_firstKept 64 = .ok (.iaload, 1) := by decide +kernel
theorem dX7_firstKept_65 : decode cX7_firstKept 65 = .ok (.if_icmp .ge 8, 3) := by decide +kernel
theorem dX7_firstKept_68 : decode cX7_firstKept 68 = .ok (.iload 4, 2) := by decide +kernel
theorem dX7_firstKept_70 : decode cX7_firstKept 70 = .ok (.goto 4, 3) := by decide +kernel
theorem dX7_firstKept_73 : decode cX7_firstKept 73 = .ok (.iload_n 3, 1) := by decide +kernel
theorem dX7_firstKept_74 : decode cX7_firstKept 74 = .ok (.istore_n 3, 1) := by decide +kernel
theorem dX7_firstKept_75 : decode cX7_firstKept 75 = .ok (.iinc 4 1, 3) := by decide +kernel
theorem dX7_firstKept_78 : decode cX7_firstKept 78 = .ok (.goto (-73), 3) := by decide +kernel
theorem dX7_firstKept_81 : decode cX7_firstKept 81 = .ok (.iload_n 3, 1) := by decide +kernel
theorem dX7_firstKept_82 : decode cX7_firstKept 82 = .ok (.ireturn, 1) := by decide +kernel
theorem dX7_doesOne_0 : decode cX7_doesOne 0 = .ok (.aload_n 0, 1) := by decide +kernel
theorem dX7_doesOne_1 : decode cX7_doesOne 1 = .ok (.getfield 41, 3) := by decide +kernel
theorem dX7_doesOne_4 : decode cX7_doesOne 4 = .ok (.iload_n 1, 1) := by decide +kernel
theorem dX7_doesOne_5 : decode cX7_doesOne 5 = .ok (.iload_n 2, 1) := by decide +kernel
theorem dX7_doesOne_6 : decode cX7_doesOne 6 = .ok (.iastore, 1) := by decide +kernel
theorem dX7_doesOne_7 : decode cX7_doesOne 7 = .ok (.aload_n 0, 1) := by decide +kernel
theorem dX7_doesOne_8 : decode cX7_doesOne 8 = .ok (.getfield 44, 3) := by decide +kernel
theorem dX7_doesOne_11 : decode cX7_doesOne 11 = .ok (.iload_n 1, 1) := by decide +kernel
theorem dX7_doesOne_12 : decode cX7_doesOne 12 = .ok (.iload_n 3, 1) := by decide +kernel
theorem dX7_doesOne_13 : decode cX7_doesOne 13 = .ok (.iastore, 1) := by decide +kernel
theorem dX7_doesOne_14 : decode cX7_doesOne 14 = .ok (.aload_n 0, 1) := by decide +kernel
theorem dX7_doesOne_15 : decode cX7_doesOne 15 = .ok (.iconst 2, 1) := by decide +kernel
theorem dX7_doesOne_16 : decode cX7_doesOne 16 = .ok (.iload_n 1, 1) := by decide +kernel
theorem dX7_doesOne_17 : decode cX7_doesOne 17 = .ok (.invokevirtual 199, 3) := by decide +kernel
theorem dX7_doesOne_20 : decode cX7_doesOne 20 = .ok (.istore 4, 2) := by decide +kernel
theorem dX7_doesOne_22 : decode cX7_doesOne 22 = .ok (.iload 4, 2) := by decide +kernel
theorem dX7_doesOne_24 : decode cX7_doesOne 24 = .ok (.ifCond .lt 28, 3) := by decide +kernel
theorem dX7_doesOne_27 : decode cX7_doesOne 27 = .ok (.aload_n 0, 1) := by decide +kernel
theorem dX7_doesOne_28 : decode cX7_doesOne 28 = .ok (.iload 4, 2) := by decide +kernel
theorem dX7_doesOne_30 : decode cX7_doesOne 30 = .ok (.aload_n 0, 1) := by decide +kernel
theorem dX7_doesOne_31 : decode cX7_doesOne 31 = .ok (.getfield 38, 3) := by decide +kernel
theorem dX7_doesOne_34 : decode cX7_doesOne 34 = .ok (.iload_n 1, 1) := by decide +kernel
theorem dX7_doesOne_35 : decode cX7_doesOne 35 = .ok (.iaload, 1) := by decide +kernel
theorem dX7_doesOne_36 : decode cX7_doesOne 36 = .ok (.iload_n 2, 1) := by decide +kernel
theorem dX7_doesOne_37 : decode cX7_doesOne 37 = .ok (.iload_n 3, 1) := by decide +kernel
theorem dX7_doesOne_38 : decode cX7_doesOne 38 = .ok (.invokevirtual 203, 3) := by decide +kernel
theorem dX7_doesOne_41 : decode cX7_doesOne 41 = .ok (.aload_n 0, 1) := by decide +kernel
theorem dX7_doesOne_42 : decode cX7_doesOne 42 = .ok (.iconst 2, 1) := by decide +kernel
theorem dX7_doesOne_43 : decode cX7_doesOne 43 = .ok (.iload_n 1, 1) := by decide +kernel
theorem dX7_doesOne_44 : decode cX7_doesOne 44 = .ok (.invokevirtual 199, 3) := by decide +kernel
theorem dX7_doesOne_47 : decode cX7_doesOne 47 = .ok (.istore 4, 2) := by decide +kernel
theorem dX7_doesOne_49 : decode cX7_doesOne 49 = .ok (.goto (-27), 3) := by decide +kernel
theorem dX7_doesOne_52 : decode cX7_doesOne 52 = .ok (.aload_n 0, 1) := by decide +kernel
theorem dX7_doesOne_53 : decode cX7_doesOne 53 = .ok (.getfield 35, 3) := by decide +kernel
theorem dX7_doesOne_56 : decode cX7_doesOne 56 = .ok (.iload_n 1, 1) := by decide +kernel
theorem dX7_doesOne_57 : decode cX7_doesOne 57 = .ok (.iaload, 1) := by decide +kernel
theorem dX7_doesOne_58 : decode cX7_doesOne 58 = .ok (.aload_n 0, 1) := by decide +kernel
theorem dX7_doesOne_59 : decode cX7_doesOne 59 = .ok (.getfield 38, 3) := by decide +kernel
theorem dX7_doesOne_62 : decode cX7_doesOne 62 = .ok (.iload_n 1, 1) := by decide +kernel
theorem dX7_doesOne_63 : decode cX7_doesOne 63 = .ok (.iaload, 1) := by decide +kernel
theorem dX7_doesOne_64 : decode cX7_doesOne 64 = .ok (.if_icmp .eq 17, 3) := by decide +kernel
theorem dX7_doesOne_67 : decode cX7_doesOne 67 = .ok (.aload_n 0, 1) := by decide +kernel
theorem dX7_doesOne_68 : decode cX7_doesOne 68 = .ok (.aload_n 0, 1) := by decide +kernel
theorem dX7_doesOne_69 : decode cX7_doesOne 69 = .ok (.getfield 38, 3) := by decide +kernel
theorem dX7_doesOne_72 : decode cX7_doesOne 72 = .ok (.iload_n 1, 1) := by decide +kernel
theorem dX7_doesOne_73 : decode cX7_doesOne 73 = .ok (.iaload, 1) := by decide +kernel
theorem dX7_doesOne_74 : decode cX7_doesOne 74 = .ok (.iload_n 1, 1) := by decide +kernel
theorem dX7_doesOne_75 : decode cX7_doesOne 75 = .ok (.iload_n 2, 1) := by decide +kernel
theorem dX7_doesOne_76 : decode cX7_doesOne 76 = .ok (.iload_n 3, 1) := by decide +kernel
theorem dX7_doesOne_77 : decode cX7_doesOne 77 = .ok (.iconst 1, 1) := by decide +kernel
theorem dX7_doesOne_78 : decode cX7_doesOne 78 = .ok (.invokevirtual 181, 3) := by decide +kernel
theorem dX7_doesOne_81 : decode cX7_doesOne 81 = .ok (.aload_n 0, 1) := by decide +kernel
theorem dX7_doesOne_82 : decode cX7_doesOne 82 = .ok (.iload_n 1, 1) := by decide +kernel
theorem dX7_doesOne_83 : decode cX7_doesOne 83 = .ok (.aload_n 0, 1) := by decide +kernel
theorem dX7_doesOne_84 : decode cX7_doesOne 84 = .ok (.getfield 38, 3) := by decide +kernel
theorem dX7_doesOne_87 : decode cX7_doesOne 87 = .ok (.iload_n 1, 1) := by decide +kernel
theorem dX7_doesOne_88 : decode cX7_doesOne 88 = .ok (.iaload, 1) := by decide +kernel
theorem dX7_doesOne_89 : decode cX7_doesOne 89 = .ok (.iload_n 2, 1) := by decide +kernel
theorem dX7_doesOne_90 : decode cX7_doesOne 90 = .ok (.iload_n 3, 1) := by decide +kernel
theorem dX7_doesOne_91 : decode cX7_doesOne 91 = .ok (.invokevirtual 167, 3) := by decide +kernel
theorem dX7_doesOne_94 : decode cX7_doesOne 94 = .ok (.return_, 1) := by decide +kernel
theorem dX7_doesAll_0 : decode cX7_doesAll 0 = .ok (.iconst 0, 1) := by decide +kernel
theorem dX7_doesAll_1 : decode cX7_doesAll 1 = .ok (.istore_n 1, 1) := by decide +kernel
theorem dX7_doesAll_2 : decode cX7_doesAll 2 = .ok (.iload_n 1, 1) := by decide +kernel
theorem dX7_doesAll_3 : decode cX7_doesAll 3 = .ok (.aload_n 0, 1) := by decide +kernel
theorem dX7_doesAll_4 : decode cX7_doesAll 4 = .ok (.getfield 164, 3) := by decide +kernel
theorem dX7_doesAll_7 : decode cX7_doesAll 7 = .ok (.if_icmp .ge 31, 3) := by decide +kernel
theorem dX7_doesAll_10 : decode cX7_doesAll 10 = .ok (.aload_n 0, 1) := by decide +kernel
theorem dX7_doesAll_11 : decode cX7_doesAll 11 = .ok (.aload_n 0, 1) := by decide +kernel
theorem dX7_doesAll_12 : decode cX7_doesAll 12 = .ok (.getfield 119, 3) := by decide +kernel
theorem dX7_doesAll_15 : decode cX7_doesAll 15 = .ok (.iload_n 1, 1) := by decide +kernel
theorem dX7_doesAll_16 : decode cX7_doesAll 16 = .ok (.iaload, 1) := by decide +kernel
theorem dX7_doesAll_17 : decode cX7_doesAll 17 = .ok (.aload_n 0, 1) := by decide +kernel
theorem dX7_doesAll_18 : decode cX7_doesAll 18 = .ok (.getfield 122, 3) := by decide +kernel
theorem dX7_doesAll_21 : decode cX7_doesAll 21 = .ok (.iload_n 1, 1) := by decide +kernel
theorem dX7_doesAll_22 : decode cX7_doesAll 22 = .ok (.iaload, 1) := by decide +kernel
theorem dX7_doesAll_23 : decode cX7_doesAll 23 = .ok (.aload_n 0, 1) := by decide +kernel
theorem dX7_doesAll_24 : decode cX7_doesAll 24 = .ok (.getfield 125, 3) := by decide +kernel
theorem dX7_doesAll_27 : decode cX7_doesAll 27 = .ok (.iload_n 1, 1) := by decide +kernel
theorem dX7_doesAll_28 : decode cX7_doesAll 28 = .ok (.iaload, 1) := by decide +kernel
theorem dX7_doesAll_29 : decode cX7_doesAll 29 = .ok (.invokevirtual 206, 3) := by decide +kernel
theorem dX7_doesAll_32 : decode cX7_doesAll 32 = .ok (.iinc 1 1, 3) := by decide +kernel
theorem dX7_doesAll_35 : decode cX7_doesAll 35 = .ok (.goto (-33), 3) := by decide +kernel
theorem dX7_doesAll_38 : decode cX7_doesAll 38 = .ok (.aload_n 0, 1) := by decide +kernel
theorem dX7_doesAll_39 : decode cX7_doesAll 39 = .ok (.iconst 0, 1) := by decide +kernel
theorem dX7_doesAll_40 : decode cX7_doesAll 40 = .ok (.putfield 164, 3) := by decide +kernel
theorem dX7_doesAll_43 : decode cX7_doesAll 43 = .ok (.return_, 1) := by decide +kernel
theorem dX7_answers_0 : decode cX7_answers 0 = .ok (.aload_n 0, 1) := by decide +kernel
theorem dX7_answers_1 : decode cX7_answers 1 = .ok (.getfield 209, 3) := by decide +kernel
theorem dX7_answers_4 : decode cX7_answers 4 = .ok (.ifCond .lt 19, 3) := by decide +kernel
theorem dX7_answers_7 : decode cX7_answers 7 = .ok (.aload_n 0, 1) := by decide +kernel
theorem dX7_answers_8 : decode cX7_answers 8 = .ok (.aload_n 0, 1) := by decide +kernel
theorem dX7_answers_9 : decode cX7_answers 9 = .ok (.getfield 209, 3) := by decide +kernel
theorem dX7_answers_12 : decode cX7_answers 12 = .ok (.aload_n 0, 1) := by decide +kernel
theorem dX7_answers_13 : decode cX7_answers 13 = .ok (.getfield 7, 3) := by decide +kernel
theorem dX7_answers_16 : decode cX7_answers 16 = .ok (.iload_n 1, 1) := by decide +kernel
theorem dX7_answers_17 : decode cX7_answers 17 = .ok (.iaload, 1) := by decide +kernel
theorem dX7_answers_18 : decode cX7_answers 18 = .ok (.iload_n 2, 1) := by decide +kernel
theorem dX7_answers_19 : decode cX7_answers 19 = .ok (.iload_n 3, 1) := by decide +kernel
theorem dX7_answers_20 : decode cX7_answers 20 = .ok (.invokevirtual 185, 3) := by decide +kernel
theorem dX7_answers_23 : decode cX7_answers 23 = .ok (.return_, 1) := by decide +kernel
theorem dX7_breaks_0 : decode cX7_breaks 0 = .ok (.aload_n 0, 1) := by decide +kernel
theorem dX7_breaks_1 : decode cX7_breaks 1 = .ok (.iload_n 1, 1) := by decide +kernel
theorem dX7_breaks_2 : decode cX7_breaks 2 = .ok (.iconst 3, 1) := by decide +kernel
theorem dX7_breaks_3 : decode cX7_breaks 3 = .ok (.iload_n 2, 1) := by decide +kernel
theorem dX7_breaks_4 : decode cX7_breaks 4 = .ok (.invokevirtual 212, 3) := by decide +kernel
theorem dX7_breaks_7 : decode cX7_breaks 7 = .ok (.return_, 1) := by decide +kernel
theorem dX7_cell_0 : decode cX7_cell 0 = .ok (.aload_n 0, 1) := by decide +kernel
theorem dX7_cell_1 : decode cX7_cell 1 = .ok (.getfield 16, 3) := by decide +kernel
theorem dX7_cell_4 : decode cX7_cell 4 = .ok (.iload_n 1, 1) := by decide +kernel
theorem dX7_cell_5 : decode cX7_cell 5 = .ok (.iaload, 1) := by decide +kernel
theorem dX7_cell_6 : decode cX7_cell 6 = .ok (.istore_n 2, 1) := by decide +kernel
theorem dX7_cell_7 : decode cX7_cell 7 = .ok (.aload_n 0, 1) := by decide +kernel
theorem dX7_cell_8 : decode cX7_cell 8 = .ok (.dup, 1) := by decide +kernel
theorem dX7_cell_9 : decode cX7_cell 9 = .ok (.getfield 215, 3) := by decide +kernel
theorem dX7_cell_12 : decode cX7_cell 12 = .ok (.lconst 1, 1) := by decide +kernel
theorem dX7_cell_13 : decode cX7_cell 13 = .ok (.ladd, 1) := by decide +kernel
theorem dX7_cell_14 : decode cX7_cell 14 = .ok (.putfield 215, 3) := by decide +kernel
theorem dX7_cell_17 : decode cX7_cell 17 = .ok (.aload_n 0, 1) := by decide +kernel
theorem dX7_cell_18 : decode cX7_cell 18 = .ok (.getfield 219, 3) := by decide +kernel
theorem dX7_cell_21 : decode cX7_cell 21 = .ok (.tableswitch 141 0 7 #[47, 57, 77, 104, 141, 141, 141, 131], 47) := by decide +kernel
theorem dX7_cell_68 : decode cX7_cell 68 = .ok (.aload_n 0, 1) := by decide +kernel
theorem dX7_cell_69 : decode cX7_cell 69 = .ok (.iload_n 1, 1) := by decide +kernel
theorem dX7_cell_70 : decode cX7_cell 70 = .ok (.iconst 1, 1) := by decide +kernel
theorem dX7_cell_71 : decode cX7_cell 71 = .ok (.iload_n 2, 1) := by decide +kernel
theorem dX7_cell_72 : decode cX7_cell 72 = .ok (.invokevirtual 212, 3) := by decide +kernel
theorem dX7_cell_75 : decode cX7_cell 75 = .ok (.goto 93, 3) := by decide +kernel
theorem dX7_cell_78 : decode cX7_cell 78 = .ok (.aload_n 0, 1) := by decide +kernel
theorem dX7_cell_79 : decode cX7_cell 79 = .ok (.getfield 16, 3) := by decide +kernel
theorem dX7_cell_82 : decode cX7_cell 82 = .ok (.iload_n 1, 1) := by decide +kernel
theorem dX7_cell_83 : decode cX7_cell 83 = .ok (.aload_n 0, 1) := by decide +kernel
theorem dX7_cell_84 : decode cX7_cell 84 = .ok (.getfield 222, 3) := by decide +kernel
theorem dX7_cell_87 : decode cX7_cell 87 = .ok (.iastore, 1) := by decide +kernel
theorem dX7_cell_88 : decode cX7_cell 88 = .ok (.aload_n 0, 1) := by decide +kernel
theorem dX7_cell_89 : decode cX7_cell 89 = .ok (.iload_n 1, 1) := by decide +kernel
theorem dX7_cell_90 : decode cX7_cell 90 = .ok (.iconst 1, 1) := by decide +kernel
theorem dX7_cell_91 : decode cX7_cell 91 = .ok (.iload_n 2, 1) := by decide +kernel
theorem dX7_cell_92 : decode cX7_cell 92 = .ok (.invokevirtual 212, 3) := by decide +kernel
theorem dX7_cell_95 : decode cX7_cell 95 = .ok (.goto 73, 3) := by decide +kernel
theorem dX7_cell_98 : decode cX7_cell 98 = .ok (.aload_n 0, 1) := by decide +kernel
theorem dX7_cell_99 : decode cX7_cell 99 = .ok (.getfield 16, 3) := by decide +kernel
theorem dX7_cell_102 : decode cX7_cell 102 = .ok (.iload_n 1, 1) := by decide +kernel
theorem dX7_cell_103 : decode cX7_cell 103 = .ok (.iload_n 2, 1) := by decide +kernel
theorem dX7_cell_104 : decode cX7_cell 104 = .ok (.aload_n 0, 1) := by decide +kernel
theorem dX7_cell_105 : decode cX7_cell 105 = .ok (.getfield 222, 3) := by decide +kernel
theorem dX7_cell_108 : decode cX7_cell 108 = .ok (.iadd, 1) := by decide +kernel
theorem dX7_cell_109 : decode cX7_cell 109 = .ok (.iastore, 1) := by decide +kernel
theorem dX7_cell_110 : decode cX7_cell 110 = .ok (.aload_n 0, 1) := by decide +kernel
theorem dX7_cell_111 : decode cX7_cell 111 = .ok (.iload_n 1, 1) := by decide +kernel
theorem dX7_cell_112 : decode cX7_cell 112 = .ok (.iconst 1, 1) := by decide +kernel
theorem dX7_cell_113 : decode cX7_cell 113 = .ok (.aload_n 0, 1) := by decide +kernel
theorem dX7_cell_114 : decode cX7_cell 114 = .ok (.getfield 16, 3) := by decide +kernel
theorem dX7_cell_117 : decode cX7_cell 117 = .ok (.iload_n 1, 1) := by decide +kernel
theorem dX7_cell_118 : decode cX7_cell 118 = .ok (.iaload, 1) := by decide +kernel
theorem dX7_cell_119 : decode cX7_cell 119 = .ok (.invokevirtual 212, 3) := by decide +kernel
theorem dX7_cell_122 : decode cX7_cell 122 = .ok (.goto 46, 3) := by decide +kernel
theorem dX7_cell_125 : decode cX7_cell 125 = .ok (.aload_n 0, 1) := by decide +kernel
theorem dX7_cell_126 : decode cX7_cell 126 = .ok (.getfield 16, 3) := by decide +kernel
theorem dX7_cell_129 : decode cX7_cell 129 = .ok (.iload_n 1, 1) := by decide +kernel
theorem dX7_cell_130 : decode cX7_cell 130 = .ok (.iload_n 2, 1) := by decide +kernel
theorem dX7_cell_131 : decode cX7_cell 131 = .ok (.aload_n 0, 1) := by decide +kernel
theorem dX7_cell_132 : decode cX7_cell 132 = .ok (.getfield 222, 3) := by decide +kernel
theorem dX7_cell_135 : decode cX7_cell 135 = .ok (.isub, 1) := by decide +kernel
theorem dX7_cell_136 : decode cX7_cell 136 = .ok (.iastore, 1) := by decide +kernel
theorem dX7_cell_137 : decode cX7_cell 137 = .ok (.aload_n 0, 1) := by decide +kernel
theorem dX7_cell_138 : decode cX7_cell 138 = .ok (.iload_n 1, 1) := by decide +kernel
theorem dX7_cell_139 : decode cX7_cell 139 = .ok (.iconst 1, 1) := by decide +kernel
theorem dX7_cell_140 : decode cX7_cell 140 = .ok (.aload_n 0, 1) := by decide +kernel
theorem dX7_cell_141 : decode cX7_cell 141 = .ok (.getfield 16, 3) := by decide +kernel
theorem dX7_cell_144 : decode cX7_cell 144 = .ok (.iload_n 1, 1) := by decide +kernel
theorem dX7_cell_145 : decode cX7_cell 145 = .ok (.iaload, 1) := by decide +kernel
theorem dX7_cell_146 : decode cX7_cell 146 = .ok (.invokevirtual 212, 3) := by decide +kernel
theorem dX7_cell_149 : decode cX7_cell 149 = .ok (.goto 19, 3) := by decide +kernel
theorem dX7_cell_152 : decode cX7_cell 152 = .ok (.aload_n 0, 1) := by decide +kernel
theorem dX7_cell_153 : decode cX7_cell 153 = .ok (.iload_n 1, 1) := by decide +kernel
theorem dX7_cell_154 : decode cX7_cell 154 = .ok (.iconst 2, 1) := by decide +kernel
theorem dX7_cell_155 : decode cX7_cell 155 = .ok (.iload_n 1, 1) := by decide +kernel
theorem dX7_cell_156 : decode cX7_cell 156 = .ok (.invokevirtual 212, 3) := by decide +kernel
theorem dX7_cell_159 : decode cX7_cell 159 = .ok (.goto 9, 3) := by decide +kernel
theorem dX7_cell_162 : decode cX7_cell 162 = .ok (.aload_n 0, 1) := by decide +kernel
theorem dX7_cell_163 : decode cX7_cell 163 = .ok (.iload_n 1, 1) := by decide +kernel
theorem dX7_cell_164 : decode cX7_cell 164 = .ok (.iconst 3, 1) := by decide +kernel
theorem dX7_cell_165 : decode cX7_cell 165 = .ok (.invokevirtual 225, 3) := by decide +kernel
theorem dX7_cell_168 : decode cX7_cell 168 = .ok (.return_, 1) := by decide +kernel
theorem dX7_moves_0 : decode cX7_moves 0 = .ok (.aload_n 0, 1) := by decide +kernel
theorem dX7_moves_1 : decode cX7_moves 1 = .ok (.getfield 65, 3) := by decide +kernel
theorem dX7_moves_4 : decode cX7_moves 4 = .ok (.aload_n 0, 1) := by decide +kernel
theorem dX7_moves_5 : decode cX7_moves 5 = .ok (.getfield 209, 3) := by decide +kernel
theorem dX7_moves_8 : decode cX7_moves 8 = .ok (.iaload, 1) := by decide +kernel
theorem dX7_moves_9 : decode cX7_moves 9 = .ok (.istore_n 2, 1) := by decide +kernel
theorem dX7_moves_10 : decode cX7_moves 10 = .ok (.aload_n 0, 1) := by decide +kernel
theorem dX7_moves_11 : decode cX7_moves 11 = .ok (.getfield 13, 3) := by decide +kernel
theorem dX7_moves_14 : decode cX7_moves 14 = .ok (.iload_n 2, 1) := by decide +kernel
theorem dX7_moves_15 : decode cX7_moves 15 = .ok (.iaload, 1) := by decide +kernel
theorem dX7_moves_16 : decode cX7_moves 16 = .ok (.iconst 1, 1) := by decide +kernel
theorem dX7_moves_17 : decode cX7_moves 17 = .ok (.if_icmp .eq 12, 3) := by decide +kernel
theorem dX7_moves_20 : decode cX7_moves 20 = .ok (.aload_n 0, 1) := by decide +kernel
theorem dX7_moves_21 : decode cX7_moves 21 = .ok (.iload_n 1, 1) := by decide +kernel
theorem dX7_moves_22 : decode cX7_moves 22 = .ok (.iconst 3, 1) := by decide +kernel
theorem dX7_moves_23 : decode cX7_moves 23 = .ok (.invokevirtual 225, 3) := by decide +kernel
theorem dX7_moves_26 : decode cX7_moves 26 = .ok (.goto 73, 3) := by decide +kernel
theorem dX7_moves_29 : decode cX7_moves 29 = .ok (.aload_n 0, 1) := by decide +kernel
theorem dX7_moves_30 : decode cX7_moves 30 = .ok (.getfield 16, 3) := by decide +kernel
theorem dX7_moves_33 : decode cX7_moves 33 = .ok (.iload_n 1, 1) := by decide +kernel
theorem dX7_moves_34 : decode cX7_moves 34 = .ok (.iaload, 1) := by decide +kernel
theorem dX7_moves_35 : decode cX7_moves 35 = .ok (.aload_n 0, 1) := by decide +kernel
theorem dX7_moves_36 : decode cX7_moves 36 = .ok (.getfield 222, 3) := by decide +kernel
theorem dX7_moves_39 : decode cX7_moves 39 = .ok (.if_icmp .ge 12, 3) := by decide +kernel
theorem dX7_moves_42 : decode cX7_moves 42 = .ok (.aload_n 0, 1) := by decide +kernel
theorem dX7_moves_43 : decode cX7_moves 43 = .ok (.iload_n 1, 1) := by decide +kernel
theorem dX7_moves_44 : decode cX7_moves 44 = .ok (.iconst 2, 1) := by decide +kernel
theorem dX7_moves_45 : decode cX7_moves 45 = .ok (.invokevirtual 225, 3) := by decide +kernel
theorem dX7_moves_48 : decode cX7_moves 48 = .ok (.goto 51, 3) := by decide +kernel
theorem dX7_moves_51 : decode cX7_moves 51 = .ok (.aload_n 0, 1) := by decide +kernel
theorem dX7_moves_52 : decode cX7_moves 52 = .ok (.getfield 16, 3) := by decide +kernel
theorem dX7_moves_55 : decode cX7_moves 55 = .ok (.iload_n 1, 1) := by decide +kernel
theorem dX7_moves_56 : decode cX7_moves 56 = .ok (.dup2, 1) := by decide +kernel
theorem dX7_moves_57 : decode cX7_moves 57 = .ok (.iaload, 1) := by decide +kernel
theorem dX7_moves_58 : decode cX7_moves 58 = .ok (.aload_n 0, 1) := by decide +kernel
theorem dX7_moves_59 : decode cX7_moves 59 = .ok (.getfield 222, 3) := by decide +kernel
theorem dX7_moves_62 : decode cX7_moves 62 = .ok (.isub, 1) := by decide +kernel
theorem dX7_moves_63 : decode cX7_moves 63 = .ok (.iastore, 1) := by decide +kernel
theorem dX7_moves_64 : decode cX7_moves 64 = .ok (.aload_n 0, 1) := by decide +kernel
theorem dX7_moves_65 : decode cX7_moves 65 = .ok (.getfield 59, 3) := by decide +kernel
theorem dX7_moves_68 : decode cX7_moves 68 = .ok (.aload_n 0, 1) := by decide +kernel
theorem dX7_moves_69 : decode cX7_moves 69 = .ok (.getfield 209, 3) := by decide +kernel
theorem dX7_moves_72 : decode cX7_moves 72 = .ok (.iconst 2, 1) := by decide +kernel
theorem dX7_moves_73 : decode cX7_moves 73 = .ok (.iastore, 1) := by decide +kernel
theorem dX7_moves_74 : decode cX7_moves 74 = .ok (.aload_n 0, 1) := by decide +kernel
theorem dX7_moves_75 : decode cX7_moves 75 = .ok (.getfield 68, 3) := by decide +kernel
theorem dX7_moves_78 : decode cX7_moves 78 = .ok (.aload_n 0, 1) := by decide +kernel
theorem dX7_moves_79 : decode cX7_moves 79 = .ok (.getfield 209, 3) := by decide +kernel
theorem dX7_moves_82 : decode cX7_moves 82 = .ok (.iload_n 1, 1) := by decide +kernel
theorem dX7_moves_83 : decode cX7_moves 83 = .ok (.iastore, 1) := by decide +kernel
theorem dX7_moves_84 : decode cX7_moves 84 = .ok (.aload_n 0, 1) := by decide +kernel
theorem dX7_moves_85 : decode cX7_moves 85 = .ok (.aload_n 0, 1) := by decide +kernel
theorem dX7_moves_86 : decode cX7_moves 86 = .ok (.getfield 209, 3) := by decide +kernel
theorem dX7_moves_89 : decode cX7_moves 89 = .ok (.aload_n 0, 1) := by decide +kernel
theorem dX7_moves_90 : decode cX7_moves 90 = .ok (.getfield 7, 3) := by decide +kernel
theorem dX7_moves_93 : decode cX7_moves 93 = .ok (.iload_n 1, 1) := by decide +kernel
theorem dX7_moves_94 : decode cX7_moves 94 = .ok (.iaload, 1) := by decide +kernel
theorem dX7_moves_95 : decode cX7_moves 95 = .ok (.iload_n 2, 1) := by decide +kernel
theorem dX7_moves_96 : decode cX7_moves 96 = .ok (.invokevirtual 196, 3) := by decide +kernel
theorem dX7_moves_99 : decode cX7_moves 99 = .ok (.return_, 1) := by decide +kernel
theorem dX7_purse_0 : decode cX7_purse 0 = .ok (.aload_n 0, 1) := by decide +kernel
theorem dX7_purse_1 : decode cX7_purse 1 = .ok (.dup, 1) := by decide +kernel
theorem dX7_purse_2 : decode cX7_purse 2 = .ok (.getfield 215, 3) := by decide +kernel
theorem dX7_purse_5 : decode cX7_purse 5 = .ok (.ldc2_w 228, 3) := by decide +kernel
theorem dX7_purse_8 : decode cX7_purse 8 = .ok (.ladd, 1) := by decide +kernel
theorem dX7_purse_9 : decode cX7_purse 9 = .ok (.putfield 215, 3) := by decide +kernel
theorem dX7_purse_12 : decode cX7_purse 12 = .ok (.aload_n 0, 1) := by decide +kernel
theorem dX7_purse_13 : decode cX7_purse 13 = .ok (.getfield 219, 3) := by decide +kernel
theorem dX7_purse_16 : decode cX7_purse 16 = .ok (.iconst 2, 1) := by decide +kernel
theorem dX7_purse_17 : decode cX7_purse 17 = .ok (.if_icmp .eq 19, 3) := by decide +kernel
theorem dX7_purse_20 : decode cX7_purse 20 = .ok (.aload_n 0, 1) := by decide +kernel
theorem dX7_purse_21 : decode cX7_purse 21 = .ok (.getfield 219, 3) := by decide +kernel
theorem dX7_purse_24 : decode cX7_purse 24 = .ok (.iconst 3, 1) := by decide +kernel
theorem dX7_purse_25 : decode cX7_purse 25 = .ok (.if_icmp .eq 11, 3) := by decide +kernel
theorem dX7_purse_28 : decode cX7_purse 28 = .ok (.aload_n 0, 1) := by decide +kernel
theorem dX7_purse_29 : decode cX7_purse 29 = .ok (.getfield 219, 3) := by decide +kernel
theorem dX7_purse_32 : decode cX7_purse 32 = .ok (.iconst 4, 1) := by decide +kernel
theorem dX7_purse_33 : decode cX7_purse 33 = .ok (.if_icmp .ne 7, 3) := by decide +kernel
theorem dX7_purse_36 : decode cX7_purse 36 = .ok (.iconst 1, 1) := by decide +kernel
theorem dX7_purse_37 : decode cX7_purse 37 = .ok (.goto 4, 3) := by decide +kernel
theorem dX7_purse_40 : decode cX7_purse 40 = .ok (.iconst 0, 1) := by decide +kernel
theorem dX7_purse_41 : decode cX7_purse 41 = .ok (.istore_n 2, 1) := by decide +kernel
theorem dX7_purse_42 : decode cX7_purse 42 = .ok (.aload_n 0, 1) := by decide +kernel
theorem dX7_purse_43 : decode cX7_purse 43 = .ok (.getfield 219, 3) := by decide +kernel
theorem dX7_purse_46 : decode cX7_purse 46 = .ok (.iconst 1, 1) := by decide +kernel
theorem dX7_purse_47 : decode cX7_purse 47 = .ok (.if_icmp .eq 14, 3) := by decide +kernel
theorem dX7_purse_50 : decode cX7_purse 50 = .ok (.iload_n 2, 1) := by decide +kernel
theorem dX7_purse_51 : decode cX7_purse 51 = .ok (.ifCond .eq 19, 3) := by decide +kernel
theorem dX7_purse_54 : decode cX7_purse 54 = .ok (.aload_n 0, 1) := by decide +kernel
theorem dX7_purse_55 : decode cX7_purse 55 = .ok (.getfield 222, 3) := by decide +kernel
theorem dX7_purse_58 : decode cX7_purse 58 = .ok (.ifCond .ge 12, 3) := by decide +kernel
theorem dX7_purse_61 : decode cX7_purse 61 = .ok (.aload_n 0, 1) := by decide +kernel
theorem dX7_purse_62 : decode cX7_purse 62 = .ok (.iload_n 1, 1) := by decide +kernel
theorem dX7_purse_63 : decode cX7_purse 63 = .ok (.iconst 3, 1) := by decide +kernel
theorem dX7_purse_64 : decode cX7_purse 64 = .ok (.invokevirtual 225, 3) := by decide +kernel
theorem dX7_purse_67 : decode cX7_purse 67 = .ok (.goto 54, 3) := by decide +kernel
theorem dX7_purse_70 : decode cX7_purse 70 = .ok (.aload_n 0, 1) := by decide +kernel
theorem dX7_purse_71 : decode cX7_purse 71 = .ok (.getfield 219, 3) := by decide +kernel
theorem dX7_purse_74 : decode cX7_purse 74 = .ok (.iconst 3, 1) := by decide +kernel
theorem dX7_purse_75 : decode cX7_purse 75 = .ok (.if_icmp .ne 25, 3) := by decide +kernel
theorem dX7_purse_78 : decode cX7_purse 78 = .ok (.aload_n 0, 1) := by decide +kernel
theorem dX7_purse_79 : decode cX7_purse 79 = .ok (.getfield 16, 3) := by decide +kernel
theorem dX7_purse_82 : decode cX7_purse 82 = .ok (.iload_n 1, 1) := by decide +kernel
theorem dX7_purse_83 : decode cX7_purse 83 = .ok (.iaload, 1) := by decide +kernel
theorem dX7_purse_84 : decode cX7_purse 84 = .ok (.aload_n 0, 1) := by decide +kernel
theorem dX7_purse_85 : decode cX7_purse 85 = .ok (.getfield 222, 3) := by decide +kernel
theorem dX7_purse_88 : decode cX7_purse 88 = .ok (.if_icmp .ge 12, 3) := by decide +kernel
theorem dX7_purse_91 : decode cX7_purse 91 = .ok (.aload_n 0, 1) := by decide +kernel
theorem dX7_purse_92 : decode cX7_purse 92 = .ok (.iload_n 1, 1) := by decide +kernel
theorem dX7_purse_93 : decode cX7_purse 93 = .ok (.iconst 2, 1) := by decide +kernel
theorem dX7_purse_94 : decode cX7_purse 94 = .ok (.invokevirtual 225, 3) := by decide +kernel
theorem dX7_purse_97 : decode cX7_purse 97 = .ok (.goto 24, 3) := by decide +kernel
theorem dX7_purse_100 : decode cX7_purse 100 = .ok (.aload_n 0, 1) := by decide +kernel
theorem dX7_purse_101 : decode cX7_purse 101 = .ok (.getfield 219, 3) := by decide +kernel
theorem dX7_purse_104 : decode cX7_purse 104 = .ok (.iconst 4, 1) := by decide +kernel
theorem dX7_purse_105 : decode cX7_purse 105 = .ok (.if_icmp .ne 11, 3) := by decide +kernel
theorem dX7_purse_108 : decode cX7_purse 108 = .ok (.aload_n 0, 1) := by decide +kernel
theorem dX7_purse_109 : decode cX7_purse 109 = .ok (.iload_n 1, 1) := by decide +kernel
theorem dX7_purse_110 : decode cX7_purse 110 = .ok (.invokevirtual 230, 3) := by decide +kernel
theorem dX7_purse_113 : decode cX7_purse 113 = .ok (.goto 8, 3) := by decide +kernel
theorem dX7_purse_116 : decode cX7_purse 116 = .ok (.aload_n 0, 1) := by decide +kernel
theorem dX7_purse_117 : decode cX7_purse 117 = .ok (.iload_n 1, 1) := by decide +kernel
theorem dX7_purse_118 : decode cX7_purse 118 = .ok (.invokevirtual 234, 3) := by decide +kernel
theorem dX7_purse_121 : decode cX7_purse 121 = .ok (.return_, 1) := by decide +kernel
theorem dX7_maker_0 : decode cX7_maker 0 = .ok (.aload_n 0, 1) := by decide +kernel
theorem dX7_maker_1 : decode cX7_maker 1 = .ok (.dup, 1) := by decide +kernel
theorem dX7_maker_2 : decode cX7_maker 2 = .ok (.getfield 215, 3) := by decide +kernel
theorem dX7_maker_5 : decode cX7_maker 5 = .ok (.ldc2_w 237, 3) := by decide +kernel
theorem dX7_maker_8 : decode cX7_maker 8 = .ok (.ladd, 1) := by decide +kernel
theorem dX7_maker_9 : decode cX7_maker 9 = .ok (.putfield 215, 3) := by decide +kernel
theorem dX7_maker_12 : decode cX7_maker 12 = .ok (.aload_n 0, 1) := by decide +kernel
theorem dX7_maker_13 : decode cX7_maker 13 = .ok (.getfield 219, 3) := by decide +kernel
theorem dX7_maker_16 : decode cX7_maker 16 = .ok (.ifCond .ne 18, 3) := by decide +kernel
theorem dX7_maker_19 : decode cX7_maker 19 = .ok (.aload_n 0, 1) := by decide +kernel
theorem dX7_maker_20 : decode cX7_maker 20 = .ok (.iload_n 1, 1) := by decide +kernel
theorem dX7_maker_21 : decode cX7_maker 21 = .ok (.iconst 1, 1) := by decide +kernel
theorem dX7_maker_22 : decode cX7_maker 22 = .ok (.aload_n 0, 1) := by decide +kernel
theorem dX7_maker_23 : decode cX7_maker 23 = .ok (.getfield 16, 3) := by decide +kernel
theorem dX7_maker_26 : decode cX7_maker 26 = .ok (.iload_n 1, 1) := by decide +kernel
theorem dX7_maker_27 : decode cX7_maker 27 = .ok (.iaload, 1) := by decide +kernel
theorem dX7_maker_28 : decode cX7_maker 28 = .ok (.invokevirtual 212, 3) := by decide +kernel
theorem dX7_maker_31 : decode cX7_maker 31 = .ok (.goto 103, 3) := by decide +kernel
theorem dX7_maker_34 : decode cX7_maker 34 = .ok (.aload_n 0, 1) := by decide +kernel
theorem dX7_maker_35 : decode cX7_maker 35 = .ok (.getfield 219, 3) := by decide +kernel
theorem dX7_maker_38 : decode cX7_maker 38 = .ok (.bipush 7, 2) := by decide +kernel
theorem dX7_maker_40 : decode cX7_maker 40 = .ok (.if_icmp .ne 13, 3) := by decide +kernel
theorem dX7_maker_43 : decode cX7_maker 43 = .ok (.aload_n 0, 1) := by decide +kernel
theorem dX7_maker_44 : decode cX7_maker 44 = .ok (.iload_n 1, 1) := by decide +kernel
theorem dX7_maker_45 : decode cX7_maker 45 = .ok (.iconst 2, 1) := by decide +kernel
theorem dX7_maker_46 : decode cX7_maker 46 = .ok (.iload_n 1, 1) := by decide +kernel
theorem dX7_maker_47 : decode cX7_maker 47 = .ok (.invokevirtual 212, 3) := by decide +kernel
theorem dX7_maker_50 : decode cX7_maker 50 = .ok (.goto 84, 3) := by decide +kernel
theorem dX7_maker_53 : decode cX7_maker 53 = .ok (.aload_n 0, 1) := by decide +kernel
theorem dX7_maker_54 : decode cX7_maker 54 = .ok (.getfield 219, 3) := by decide +kernel
theorem dX7_maker_57 : decode cX7_maker 57 = .ok (.iconst 5, 1) := by decide +kernel
theorem dX7_maker_58 : decode cX7_maker 58 = .ok (.if_icmp .ne 15, 3) := by decide +kernel
theorem dX7_maker_61 : decode cX7_maker 61 = .ok (.aload_n 0, 1) := by decide +kernel
theorem dX7_maker_62 : decode cX7_maker 62 = .ok (.getfield 222, 3) := by decide +kernel
theorem dX7_maker_65 : decode cX7_maker 65 = .ok (.iconst 0, 1) := by decide +kernel
theorem dX7_maker_66 : decode cX7_maker 66 = .ok (.iconst 2, 1) := by decide +kernel
theorem dX7_maker_67 : decode cX7_maker 67 = .ok (.invokestatic 132, 3) := by decide +kernel
theorem dX7_maker_70 : decode cX7_maker 70 = .ok (.ifCond .ne 12, 3) := by decide +kernel
theorem dX7_maker_73 : decode cX7_maker 73 = .ok (.aload_n 0, 1) := by decide +kernel
theorem dX7_maker_74 : decode cX7_maker 74 = .ok (.iload_n 1, 1) := by decide +kernel
theorem dX7_maker_75 : decode cX7_maker 75 = .ok (.iconst 3, 1) := by decide +kernel
theorem dX7_maker_76 : decode cX7_maker 76 = .ok (.invokevirtual 225, 3) := by decide +kernel
theorem dX7_maker_79 : decode cX7_maker 79 = .ok (.goto 55, 3) := by decide +kernel
theorem dX7_maker_82 : decode cX7_maker 82 = .ok (.aload_n 0, 1) := by decide +kernel
theorem dX7_maker_83 : decode cX7_maker 83 = .ok (.getfield 128, 3) := by decide +kernel
theorem dX7_maker_86 : decode cX7_maker 86 = .ok (.bipush 40, 2) := by decide +kernel
theorem dX7_maker_88 : decode cX7_maker 88 = .ok (.if_icmp .ne 12, 3) := by decide +kernel
theorem dX7_maker_91 : decode cX7_maker 91 = .ok (.aload_n 0, 1) := by decide +kernel
theorem dX7_maker_92 : decode cX7_maker 92 = .ok (.iload_n 1, 1) := by decide +kernel
theorem dX7_maker_93 : decode cX7_maker 93 = .ok (.iconst 5, 1) := by decide +kernel
theorem dX7_maker_94 : decode cX7_maker 94 = .ok (.invokevirtual 225, 3) := by decide +kernel
theorem dX7_maker_97 : decode cX7_maker 97 = .ok (.goto 37, 3) := by decide +kernel
theorem dX7_maker_100 : decode cX7_maker 100 = .ok (.aload_n 0, 1) := by decide +kernel
theorem dX7_maker_101 : decode cX7_maker 101 = .ok (.getfield 16, 3) := by decide +kernel
theorem dX7_maker_104 : decode cX7_maker 104 = .ok (.iload_n 1, 1) := by decide +kernel
theorem dX7_maker_105 : decode cX7_maker 105 = .ok (.dup2, 1) := by decide +kernel
theorem dX7_maker_106 : decode cX7_maker 106 = .ok (.iaload, 1) := by decide +kernel
theorem dX7_maker_107 : decode cX7_maker 107 = .ok (.iconst 1, 1) := by decide +kernel
theorem dX7_maker_108 : decode cX7_maker 108 = .ok (.iadd, 1) := by decide +kernel
theorem dX7_maker_109 : decode cX7_maker 109 = .ok (.iastore, 1) := by decide +kernel
theorem dX7_maker_110 : decode cX7_maker 110 = .ok (.aload_n 0, 1) := by decide +kernel
theorem dX7_maker_111 : decode cX7_maker 111 = .ok (.iload_n 1, 1) := by decide +kernel
theorem dX7_maker_112 : decode cX7_maker 112 = .ok (.iconst 2, 1) := by decide +kernel
theorem dX7_maker_113 : decode cX7_maker 113 = .ok (.aload_n 0, 1) := by decide +kernel
theorem dX7_maker_114 : decode cX7_maker 114 = .ok (.aload_n 0, 1) := by decide +kernel
theorem dX7_maker_115 : decode cX7_maker 115 = .ok (.getfield 7, 3) := by decide +kernel
theorem dX7_maker_118 : decode cX7_maker 118 = .ok (.iload_n 1, 1) := by decide +kernel
theorem dX7_maker_119 : decode cX7_maker 119 = .ok (.iaload, 1) := by decide +kernel
theorem dX7_maker_120 : decode cX7_maker 120 = .ok (.aload_n 0, 1) := by decide +kernel
theorem dX7_maker_121 : decode cX7_maker 121 = .ok (.getfield 222, 3) := by decide +kernel
theorem dX7_maker_124 : decode cX7_maker 124 = .ok (.iconst 0, 1) := by decide +kernel
theorem dX7_maker_125 : decode cX7_maker 125 = .ok (.bipush (-9), 2) := by decide +kernel
theorem dX7_maker_127 : decode cX7_maker 127 = .ok (.iconst 0, 1) := by decide +kernel
theorem dX7_maker_128 : decode cX7_maker 128 = .ok (.invokevirtual 139, 3) := by decide +kernel
theorem dX7_maker_131 : decode cX7_maker 131 = .ok (.invokevirtual 212, 3) := by decide +kernel
theorem dX7_maker_134 : decode cX7_maker 134 = .ok (.return_, 1) := by decide +kernel
theorem dX7_guardHears_0 : decode cX7_guardHears 0 = .ok (.aload_n 0, 1) := by decide +kernel
theorem dX7_guardHears_1 : decode cX7_guardHears 1 = .ok (.dup, 1) := by decide +kernel
theorem dX7_guardHears_2 : decode cX7_guardHears 2 = .ok (.getfield 215, 3) := by decide +kernel
theorem dX7_guardHears_5 : decode cX7_guardHears 5 = .ok (.ldc2_w 239, 3) := by decide +kernel
theorem dX7_guardHears_8 : decode cX7_guardHears 8 = .ok (.ladd, 1) := by decide +kernel
theorem dX7_guardHears_9 : decode cX7_guardHears 9 = .ok (.putfield 215, 3) := by decide +kernel
theorem dX7_guardHears_12 : decode cX7_guardHears 12 = .ok (.aload_n 0, 1) := by decide +kernel
theorem dX7_guardHears_13 : decode cX7_guardHears 13 = .ok (.getfield 25, 3) := by decide +kernel
theorem dX7_guardHears_16 : decode cX7_guardHears 16 = .ok (.iload_n 1, 1) := by decide +kernel
theorem dX7_guardHears_17 : decode cX7_guardHears 17 = .ok (.baload, 1) := by decide +kernel
theorem dX7_guardHears_18 : decode cX7_guardHears 18 = .ok (.ifCond .eq 12, 3) := by decide +kernel
theorem dX7_guardHears_21 : decode cX7_guardHears 21 = .ok (.aload_n 0, 1) := by decide +kernel
theorem dX7_guardHears_22 : decode cX7_guardHears 22 = .ok (.iload_n 1, 1) := by decide +kernel
theorem dX7_guardHears_23 : decode cX7_guardHears 23 = .ok (.iconst 4, 1) := by decide +kernel
theorem dX7_guardHears_24 : decode cX7_guardHears 24 = .ok (.invokevirtual 225, 3) := by decide +kernel
theorem dX7_guardHears_27 : decode cX7_guardHears 27 = .ok (.goto 78, 3) := by decide +kernel
theorem dX7_guardHears_30 : decode cX7_guardHears 30 = .ok (.aload_n 0, 1) := by decide +kernel
theorem dX7_guardHears_31 : decode cX7_guardHears 31 = .ok (.getfield 22, 3) := by decide +kernel
theorem dX7_guardHears_34 : decode cX7_guardHears 34 = .ok (.iload_n 1, 1) := by decide +kernel
theorem dX7_guardHears_35 : decode cX7_guardHears 35 = .ok (.iaload, 1) := by decide +kernel
theorem dX7_guardHears_36 : decode cX7_guardHears 36 = .ok (.aload_n 0, 1) := by decide +kernel
theorem dX7_guardHears_37 : decode cX7_guardHears 37 = .ok (.getfield 219, 3) := by decide +kernel
theorem dX7_guardHears_40 : decode cX7_guardHears 40 = .ok (.ishr, 1) := by decide +kernel
theorem dX7_guardHears_41 : decode cX7_guardHears 41 = .ok (.iconst 1, 1) := by decide +kernel
theorem dX7_guardHears_42 : decode cX7_guardHears 42 = .ok (.iand, 1) := by decide +kernel
theorem dX7_guardHears_43 : decode cX7_guardHears 43 = .ok (.ifCond .ne 12, 3) := by decide +kernel
theorem dX7_guardHears_46 : decode cX7_guardHears 46 = .ok (.aload_n 0, 1) := by decide +kernel
theorem dX7_guardHears_47 : decode cX7_guardHears 47 = .ok (.iload_n 1, 1) := by decide +kernel
theorem dX7_guardHears_48 : decode cX7_guardHears 48 = .ok (.iconst 3, 1) := by decide +kernel
theorem dX7_guardHears_49 : decode cX7_guardHears 49 = .ok (.invokevirtual 225, 3) := by decide +kernel
theorem dX7_guardHears_52 : decode cX7_guardHears 52 = .ok (.goto 53, 3) := by decide +kernel
theorem dX7_guardHears_55 : decode cX7_guardHears 55 = .ok (.aload_n 0, 1) := by decide +kernel
theorem dX7_guardHears_56 : decode cX7_guardHears 56 = .ok (.getfield 209, 3) := by decide +kernel
theorem dX7_guardHears_59 : decode cX7_guardHears 59 = .ok (.ifCond .lt 26, 3) := by decide +kernel
theorem dX7_guardHears_62 : decode cX7_guardHears 62 = .ok (.aload_n 0, 1) := by decide +kernel
theorem dX7_guardHears_63 : decode cX7_guardHears 63 = .ok (.aload_n 0, 1) := by decide +kernel
theorem dX7_guardHears_64 : decode cX7_guardHears 64 = .ok (.getfield 209, 3) := by decide +kernel
theorem dX7_guardHears_67 : decode cX7_guardHears 67 = .ok (.aload_n 0, 1) := by decide +kernel
theorem dX7_guardHears_68 : decode cX7_guardHears 68 = .ok (.getfield 7, 3) := by decide +kernel
theorem dX7_guardHears_71 : decode cX7_guardHears 71 = .ok (.iload_n 1, 1) := by decide +kernel
theorem dX7_guardHears_72 : decode cX7_guardHears 72 = .ok (.iaload, 1) := by decide +kernel
theorem dX7_guardHears_73 : decode cX7_guardHears 73 = .ok (.aload_n 0, 1) := by decide +kernel
theorem dX7_guardHears_74 : decode cX7_guardHears 74 = .ok (.getfield 19, 3) := by decide +kernel
theorem dX7_guardHears_77 : decode cX7_guardHears 77 = .ok (.iload_n 1, 1) := by decide +kernel
theorem dX7_guardHears_78 : decode cX7_guardHears 78 = .ok (.iaload, 1) := by decide +kernel
theorem dX7_guardHears_79 : decode cX7_guardHears 79 = .ok (.invokevirtual 196, 3) := by decide +kernel
theorem dX7_guardHears_82 : decode cX7_guardHears 82 = .ok (.goto 23, 3) := by decide +kernel
theorem dX7_guardHears_85 : decode cX7_guardHears 85 = .ok (.aload_n 0, 1) := by decide +kernel
theorem dX7_guardHears_86 : decode cX7_guardHears 86 = .ok (.aload_n 0, 1) := by decide +kernel
theorem dX7_guardHears_87 : decode cX7_guardHears 87 = .ok (.getfield 7, 3) := by decide +kernel
theorem dX7_guardHears_90 : decode cX7_guardHears 90 = .ok (.iload_n 1, 1) := by decide +kernel
theorem dX7_guardHears_91 : decode cX7_guardHears 91 = .ok (.iaload, 1) := by decide +kernel
theorem dX7_guardHears_92 : decode cX7_guardHears 92 = .ok (.aload_n 0, 1) := by decide +kernel
theorem dX7_guardHears_93 : decode cX7_guardHears 93 = .ok (.getfield 19, 3) := by decide +kernel
theorem dX7_guardHears_96 : decode cX7_guardHears 96 = .ok (.iload_n 1, 1) := by decide +kernel
theorem dX7_guardHears_97 : decode cX7_guardHears 97 = .ok (.iaload, 1) := by decide +kernel
theorem dX7_guardHears_98 : decode cX7_guardHears 98 = .ok (.aload_n 0, 1) := by decide +kernel
theorem dX7_guardHears_99 : decode cX7_guardHears 99 = .ok (.getfield 222, 3) := by decide +kernel
theorem dX7_guardHears_102 : decode cX7_guardHears 102 = .ok (.invokevirtual 154, 3) := by decide +kernel
theorem dX7_guardHears_105 : decode cX7_guardHears 105 = .ok (.return_, 1) := by decide +kernel
theorem dX7_switchHears_0 : decode cX7_switchHears 0 = .ok (.aload_n 0, 1) := by decide +kernel
theorem dX7_switchHears_1 : decode cX7_switchHears 1 = .ok (.dup, 1) := by decide +kernel
theorem dX7_switchHears_2 : decode cX7_switchHears 2 = .ok (.getfield 215, 3) := by decide +kernel
theorem dX7_switchHears_5 : decode cX7_switchHears 5 = .ok (.ldc2_w 241, 3) := by decide +kernel
theorem dX7_switchHears_8 : decode cX7_switchHears 8 = .ok (.ladd, 1) := by decide +kernel
theorem dX7_switchHears_9 : decode cX7_switchHears 9 = .ok (.putfield 215, 3) := by decide +kernel
theorem dX7_switchHears_12 : decode cX7_switchHears 12 = .ok (.aload_n 0, 1) := by decide +kernel
theorem dX7_switchHears_13 : decode cX7_switchHears 13 = .ok (.getfield 29, 3) := by decide +kernel
theorem dX7_switchHears_16 : decode cX7_switchHears 16 = .ok (.iload_n 1, 1) := by decide +kernel
theorem dX7_switchHears_17 : decode cX7_switchHears 17 = .ok (.baload, 1) := by decide +kernel
theorem dX7_switchHears_18 : decode cX7_switchHears 18 = .ok (.ifCond .eq 12, 3) := by decide +kernel
theorem dX7_switchHears_21 : decode cX7_switchHears 21 = .ok (.aload_n 0, 1) := by decide +kernel
theorem dX7_switchHears_22 : decode cX7_switchHears 22 = .ok (.iload_n 1, 1) := by decide +kernel
theorem dX7_switchHears_23 : decode cX7_switchHears 23 = .ok (.iconst 4, 1) := by decide +kernel
theorem dX7_switchHears_24 : decode cX7_switchHears 24 = .ok (.invokevirtual 225, 3) := by decide +kernel
theorem dX7_switchHears_27 : decode cX7_switchHears 27 = .ok (.goto 8, 3) := by decide +kernel
theorem dX7_switchHears_30 : decode cX7_switchHears 30 = .ok (.aload_n 0, 1) := by decide +kernel
theorem dX7_switchHears_31 : decode cX7_switchHears 31 = .ok (.iload_n 1, 1) := by decide +kernel
theorem dX7_switchHears_32 : decode cX7_switchHears 32 = .ok (.invokevirtual 243, 3) := by decide +kernel
theorem dX7_switchHears_35 : decode cX7_switchHears 35 = .ok (.return_, 1) := by decide +kernel
theorem dX7_holds_0 : decode cX7_holds 0 = .ok (.aload_n 0, 1) := by decide +kernel
theorem dX7_holds_1 : decode cX7_holds 1 = .ok (.getfield 56, 3) := by decide +kernel
theorem dX7_holds_4 : decode cX7_holds 4 = .ok (.aload_n 0, 1) := by decide +kernel
theorem dX7_holds_5 : decode cX7_holds 5 = .ok (.getfield 209, 3) := by decide +kernel
theorem dX7_holds_8 : decode cX7_holds 8 = .ok (.iconst 1, 1) := by decide +kernel
theorem dX7_holds_9 : decode cX7_holds 9 = .ok (.iastore, 1) := by decide +kernel
theorem dX7_holds_10 : decode cX7_holds 10 = .ok (.aload_n 0, 1) := by decide +kernel
theorem dX7_holds_11 : decode cX7_holds 11 = .ok (.getfield 71, 3) := by decide +kernel
theorem dX7_holds_14 : decode cX7_holds 14 = .ok (.aload_n 0, 1) := by decide +kernel
theorem dX7_holds_15 : decode cX7_holds 15 = .ok (.getfield 209, 3) := by decide +kernel
theorem dX7_holds_18 : decode cX7_holds 18 = .ok (.iload_n 1, 1) := by decide +kernel
theorem dX7_holds_19 : decode cX7_holds 19 = .ok (.iastore, 1) := by decide +kernel
theorem dX7_holds_20 : decode cX7_holds 20 = .ok (.aload_n 0, 1) := by decide +kernel
theorem dX7_holds_21 : decode cX7_holds 21 = .ok (.getfield 74, 3) := by decide +kernel
theorem dX7_holds_24 : decode cX7_holds 24 = .ok (.aload_n 0, 1) := by decide +kernel
theorem dX7_holds_25 : decode cX7_holds 25 = .ok (.getfield 209, 3) := by decide +kernel
theorem dX7_holds_28 : decode cX7_holds 28 = .ok (.aload_n 0, 1) := by decide +kernel
theorem dX7_holds_29 : decode cX7_holds 29 = .ok (.getfield 246, 3) := by decide +kernel
theorem dX7_holds_32 : decode cX7_holds 32 = .ok (.iastore, 1) := by decide +kernel
theorem dX7_holds_33 : decode cX7_holds 33 = .ok (.aload_n 0, 1) := by decide +kernel
theorem dX7_holds_34 : decode cX7_holds 34 = .ok (.dup, 1) := by decide +kernel
theorem dX7_holds_35 : decode cX7_holds 35 = .ok (.getfield 246, 3) := by decide +kernel
theorem dX7_holds_38 : decode cX7_holds 38 = .ok (.iconst 1, 1) := by decide +kernel
theorem dX7_holds_39 : decode cX7_holds 39 = .ok (.iadd, 1) := by decide +kernel
theorem dX7_holds_40 : decode cX7_holds 40 = .ok (.putfield 246, 3) := by decide +kernel
theorem dX7_holds_43 : decode cX7_holds 43 = .ok (.aload_n 0, 1) := by decide +kernel
theorem dX7_holds_44 : decode cX7_holds 44 = .ok (.getfield 32, 3) := by decide +kernel
theorem dX7_holds_47 : decode cX7_holds 47 = .ok (.iload_n 1, 1) := by decide +kernel
theorem dX7_holds_48 : decode cX7_holds 48 = .ok (.dup2, 1) := by decide +kernel
theorem dX7_holds_49 : decode cX7_holds 49 = .ok (.iaload, 1) := by decide +kernel
theorem dX7_holds_50 : decode cX7_holds 50 = .ok (.iconst 1, 1) := by decide +kernel
theorem dX7_holds_51 : decode cX7_holds 51 = .ok (.iadd, 1) := by decide +kernel
theorem dX7_holds_52 : decode cX7_holds 52 = .ok (.iastore, 1) := by decide +kernel
theorem dX7_holds_53 : decode cX7_holds 53 = .ok (.return_, 1) := by decide +kernel
theorem dX7_answersAll_0 : decode cX7_answersAll 0 = .ok (.aload_n 0, 1) := by decide +kernel
theorem dX7_answersAll_1 : decode cX7_answersAll 1 = .ok (.getfield 32, 3) := by decide +kernel
theorem dX7_answersAll_4 : decode cX7_answersAll 4 = .ok (.iload_n 1, 1) := by decide +kernel
theorem dX7_answersAll_5 : decode cX7_answersAll 5 = .ok (.iaload, 1) := by decide +kernel
theorem dX7_answersAll_6 : decode cX7_answersAll 6 = .ok (.istore_n 3, 1) := by decide +kernel
theorem dX7_answersAll_7 : decode cX7_answersAll 7 = .ok (.aload_n 0, 1) := by decide +kernel
theorem dX7_answersAll_8 : decode cX7_answersAll 8 = .ok (.getfield 32, 3) := by decide +kernel
theorem dX7_answersAll_11 : decode cX7_answersAll 11 = .ok (.iload_n 1, 1) := by decide +kernel
theorem dX7_answersAll_12 : decode cX7_answersAll 12 = .ok (.iconst 0, 1) := by decide +kernel
theorem dX7_answersAll_13 : decode cX7_answersAll 13 = .ok (.iastore, 1) := by decide +kernel
theorem dX7_answersAll_14 : decode cX7_answersAll 14 = .ok (.aload_n 0, 1) := by decide +kernel
theorem dX7_answersAll_15 : decode cX7_answersAll 15 = .ok (.iconst 1, 1) := by decide +kernel
theorem dX7_answersAll_16 : decode cX7_answersAll 16 = .ok (.iload_n 1, 1) := by decide +kernel
theorem dX7_answersAll_17 : decode cX7_answersAll 17 = .ok (.invokevirtual 199, 3) := by decide +kernel
theorem dX7_answersAll_20 : decode cX7_answersAll 20 = .ok (.istore 4, 2) := by decide +kernel
theorem dX7_answersAll_22 : decode cX7_answersAll 22 = .ok (.iload 4, 2) := by decide +kernel
theorem dX7_answersAll_24 : decode cX7_answersAll 24 = .ok (.ifCond .lt 28, 3) := by decide +kernel
theorem dX7_answersAll_27 : decode cX7_answersAll 27 = .ok (.aload_n 0, 1) := by decide +kernel
theorem dX7_answersAll_28 : decode cX7_answersAll 28 = .ok (.iload 4, 2) := by decide +kernel
theorem dX7_answersAll_30 : decode cX7_answersAll 30 = .ok (.aload_n 0, 1) := by decide +kernel
theorem dX7_answersAll_31 : decode cX7_answersAll 31 = .ok (.getfield 7, 3) := by decide +kernel
theorem dX7_answersAll_34 : decode cX7_answersAll 34 = .ok (.iload_n 1, 1) := by decide +kernel
theorem dX7_answersAll_35 : decode cX7_answersAll 35 = .ok (.iaload, 1) := by decide +kernel
theorem dX7_answersAll_36 : decode cX7_answersAll 36 = .ok (.iconst 1, 1) := by decide +kernel
theorem dX7_answersAll_37 : decode cX7_answersAll 37 = .ok (.iload_n 2, 1) := by decide +kernel
theorem dX7_answersAll_38 : decode cX7_answersAll 38 = .ok (.invokevirtual 185, 3) := by decide +kernel
theorem dX7_answersAll_41 : decode cX7_answersAll 41 = .ok (.aload_n 0, 1) := by decide +kernel
theorem dX7_answersAll_42 : decode cX7_answersAll 42 = .ok (.iconst 1, 1) := by decide +kernel
theorem dX7_answersAll_43 : decode cX7_answersAll 43 = .ok (.iload_n 1, 1) := by decide +kernel
theorem dX7_answersAll_44 : decode cX7_answersAll 44 = .ok (.invokevirtual 199, 3) := by decide +kernel
theorem dX7_answersAll_47 : decode cX7_answersAll 47 = .ok (.istore 4, 2) := by decide +kernel
theorem dX7_answersAll_49 : decode cX7_answersAll 49 = .ok (.goto (-27), 3) := by decide +kernel
theorem dX7_answersAll_52 : decode cX7_answersAll 52 = .ok (.iload_n 3, 1) := by decide +kernel
theorem dX7_answersAll_53 : decode cX7_answersAll 53 = .ok (.ireturn, 1) := by decide +kernel
theorem dX7_joiner_0 : decode cX7_joiner 0 = .ok (.aload_n 0, 1) := by decide +kernel
theorem dX7_joiner_1 : decode cX7_joiner 1 = .ok (.dup, 1) := by decide +kernel
theorem dX7_joiner_2 : decode cX7_joiner 2 = .ok (.getfield 215, 3) := by decide +kernel
theorem dX7_joiner_5 : decode cX7_joiner 5 = .ok (.ldc2_w 249, 3) := by decide +kernel
theorem dX7_joiner_8 : decode cX7_joiner 8 = .ok (.ladd, 1) := by decide +kernel
theorem dX7_joiner_9 : decode cX7_joiner 9 = .ok (.putfield 215, 3) := by decide +kernel
theorem dX7_joiner_12 : decode cX7_joiner 12 = .ok (.aload_n 0, 1) := by decide +kernel
theorem dX7_joiner_13 : decode cX7_joiner 13 = .ok (.getfield 219, 3) := by decide +kernel
theorem dX7_joiner_16 : decode cX7_joiner 16 = .ok (.bipush 6, 2) := by decide +kernel
theorem dX7_joiner_18 : decode cX7_joiner 18 = .ok (.if_icmp .ne 84, 3) := by decide +kernel
theorem dX7_joiner_21 : decode cX7_joiner 21 = .ok (.aload_n 0, 1) := by decide +kernel
theorem dX7_joiner_22 : decode cX7_joiner 22 = .ok (.iload_n 1, 1) := by decide +kernel
theorem dX7_joiner_23 : decode cX7_joiner 23 = .ok (.invokevirtual 251, 3) := by decide +kernel
theorem dX7_joiner_26 : decode cX7_joiner 26 = .ok (.aload_n 0, 1) := by decide +kernel
theorem dX7_joiner_27 : decode cX7_joiner 27 = .ok (.getfield 32, 3) := by decide +kernel
theorem dX7_joiner_30 : decode cX7_joiner 30 = .ok (.iload_n 1, 1) := by decide +kernel
theorem dX7_joiner_31 : decode cX7_joiner 31 = .ok (.iaload, 1) := by decide +kernel
theorem dX7_joiner_32 : decode cX7_joiner 32 = .ok (.aload_n 0, 1) := by decide +kernel
theorem dX7_joiner_33 : decode cX7_joiner 33 = .ok (.getfield 16, 3) := by decide +kernel
theorem dX7_joiner_36 : decode cX7_joiner 36 = .ok (.iload_n 1, 1) := by decide +kernel
theorem dX7_joiner_37 : decode cX7_joiner 37 = .ok (.iaload, 1) := by decide +kernel
theorem dX7_joiner_38 : decode cX7_joiner 38 = .ok (.if_icmp .lt 111, 3) := by decide +kernel
theorem dX7_joiner_41 : decode cX7_joiner 41 = .ok (.iconst 0, 1) := by decide +kernel
theorem dX7_joiner_42 : decode cX7_joiner 42 = .ok (.istore_n 2, 1) := by decide +kernel
theorem dX7_joiner_43 : decode cX7_joiner 43 = .ok (.iconst 0, 1) := by decide +kernel
theorem dX7_joiner_44 : decode cX7_joiner 44 = .ok (.istore_n 3, 1) := by decide +kernel
theorem dX7_joiner_45 : decode cX7_joiner 45 = .ok (.iload_n 3, 1) := by decide +kernel
theorem dX7_joiner_46 : decode cX7_joiner 46 = .ok (.aload_n 0, 1) := by decide +kernel
theorem dX7_joiner_47 : decode cX7_joiner 47 = .ok (.getfield 136, 3) := by decide +kernel
theorem dX7_joiner_50 : decode cX7_joiner 50 = .ok (.if_icmp .ge 42, 3) := by decide +kernel
theorem dX7_joiner_53 : decode cX7_joiner 53 = .ok (.iload_n 2, 1) := by decide +kernel
theorem dX7_joiner_54 : decode cX7_joiner 54 = .ok (.aload_n 0, 1) := by decide +kernel
theorem dX7_joiner_55 : decode cX7_joiner 55 = .ok (.getfield 56, 3) := by decide +kernel
theorem dX7_joiner_58 : decode cX7_joiner 58 = .ok (.iload_n 3, 1) := by decide +kernel
theorem dX7_joiner_59 : decode cX7_joiner 59 = .ok (.iaload, 1) := by decide +kernel
theorem dX7_joiner_60 : decode cX7_joiner 60 = .ok (.iconst 1, 1) := by decide +kernel
theorem dX7_joiner_61 : decode cX7_joiner 61 = .ok (.if_icmp .ne 22, 3) := by decide +kernel
theorem dX7_joiner_64 : decode cX7_joiner 64 = .ok (.aload_n 0, 1) := by decide +kernel
theorem dX7_joiner_65 : decode cX7_joiner 65 = .ok (.getfield 71, 3) := by decide +kernel
theorem dX7_joiner_68 : decode cX7_joiner 68 = .ok (.iload_n 3, 1) := by decide +kernel
theorem dX7_joiner_69 : decode cX7_joiner 69 = .ok (.iaload, 1) := by decide +kernel
theorem dX7_joiner_70 : decode cX7_joiner 70 = .ok (.iload_n 1, 1) := by decide +kernel
theorem dX7_joiner_71 : decode cX7_joiner 71 = .ok (.if_icmp .ne 12, 3) := by decide +kernel
theorem dX7_joiner_74 : decode cX7_joiner 74 = .ok (.aload_n 0, 1) := by decide +kernel
theorem dX7_joiner_75 : decode cX7_joiner 75 = .ok (.getfield 62, 3) := by decide +kernel
theorem dX7_joiner_78 : decode cX7_joiner 78 = .ok (.iload_n 3, 1) := by decide +kernel
theorem dX7_joiner_79 : decode cX7_joiner 79 = .ok (.iaload, 1) := by decide +kernel
theorem dX7_joiner_80 : decode cX7_joiner 80 = .ok (.goto 4, 3) := by decide +kernel
theorem dX7_joiner_83 : decode cX7_joiner 83 = .ok (.iconst 0, 1) := by decide +kernel
theorem dX7_joiner_84 : decode cX7_joiner 84 = .ok (.iadd, 1) := by decide +kernel
theorem dX7_joiner_85 : decode cX7_joiner 85 = .ok (.istore_n 2, 1) := by decide +kernel
theorem dX7_joiner_86 : decode cX7_joiner 86 = .ok (.iinc 3 1, 3) := by decide +kernel
theorem dX7_joiner_89 : decode cX7_joiner 89 = .ok (.goto (-44), 3) := by decide +kernel
theorem dX7_joiner_92 : decode cX7_joiner 92 = .ok (.aload_n 0, 1) := by decide +kernel
theorem dX7_joiner_93 : decode cX7_joiner 93 = .ok (.iload_n 1, 1) := by decide +kernel
theorem dX7_joiner_94 : decode cX7_joiner 94 = .ok (.iload_n 2, 1) := by decide +kernel
theorem dX7_joiner_95 : decode cX7_joiner 95 = .ok (.invokevirtual 254, 3) := by decide +kernel
theorem dX7_joiner_98 : decode cX7_joiner 98 = .ok (.istore_n 3, 1) := by decide +kernel
theorem dX7_joiner_99 : decode cX7_joiner 99 = .ok (.goto 50, 3) := by decide +kernel
theorem dX7_joiner_102 : decode cX7_joiner 102 = .ok (.aload_n 0, 1) := by decide +kernel
theorem dX7_joiner_103 : decode cX7_joiner 103 = .ok (.getfield 219, 3) := by decide +kernel
theorem dX7_joiner_106 : decode cX7_joiner 106 = .ok (.ifCond .ne 18, 3) := by decide +kernel
theorem dX7_joiner_109 : decode cX7_joiner 109 = .ok (.aload_n 0, 1) := by decide +kernel
theorem dX7_joiner_110 : decode cX7_joiner 110 = .ok (.iload_n 1, 1) := by decide +kernel
theorem dX7_joiner_111 : decode cX7_joiner 111 = .ok (.iconst 1, 1) := by decide +kernel
theorem dX7_joiner_112 : decode cX7_joiner 112 = .ok (.aload_n 0, 1) := by decide +kernel
theorem dX7_joiner_113 : decode cX7_joiner 113 = .ok (.getfield 32, 3) := by decide +kernel
theorem dX7_joiner_116 : decode cX7_joiner 116 = .ok (.iload_n 1, 1) := by decide +kernel
theorem dX7_joiner_117 : decode cX7_joiner 117 = .ok (.iaload, 1) := by decide +kernel
theorem dX7_joiner_118 : decode cX7_joiner 118 = .ok (.invokevirtual 212, 3) := by decide +kernel
theorem dX7_joiner_121 : decode cX7_joiner 121 = .ok (.goto 28, 3) := by decide +kernel
theorem dX7_joiner_124 : decode cX7_joiner 124 = .ok (.aload_n 0, 1) := by decide +kernel
theorem dX7_joiner_125 : decode cX7_joiner 125 = .ok (.getfield 219, 3) := by decide +kernel
theorem dX7_joiner_128 : decode cX7_joiner 128 = .ok (.bipush 7, 2) := by decide +kernel
theorem dX7_joiner_130 : decode cX7_joiner 130 = .ok (.if_icmp .ne 13, 3) := by decide +kernel
theorem dX7_joiner_133 : decode cX7_joiner 133 = .ok (.aload_n 0, 1) := by decide +kernel
theorem dX7_joiner_134 : decode cX7_joiner 134 = .ok (.iload_n 1, 1) := by decide +kernel
theorem dX7_joiner_135 : decode cX7_joiner 135 = .ok (.iconst 2, 1) := by decide +kernel
theorem dX7_joiner_136 : decode cX7_joiner 136 = .ok (.iload_n 1, 1) := by decide +kernel
theorem dX7_joiner_137 : decode cX7_joiner 137 = .ok (.invokevirtual 212, 3) := by decide +kernel
theorem dX7_joiner_140 : decode cX7_joiner 140 = .ok (.goto 9, 3) := by decide +kernel
theorem dX7_joiner_143 : decode cX7_joiner 143 = .ok (.aload_n 0, 1) := by decide +kernel
theorem dX7_joiner_144 : decode cX7_joiner 144 = .ok (.iload_n 1, 1) := by decide +kernel
theorem dX7_joiner_145 : decode cX7_joiner 145 = .ok (.iconst 3, 1) := by decide +kernel
theorem dX7_joiner_146 : decode cX7_joiner 146 = .ok (.invokevirtual 225, 3) := by decide +kernel
theorem dX7_joiner_149 : decode cX7_joiner 149 = .ok (.return_, 1) := by decide +kernel
theorem dX7_sleeper_0 : decode cX7_sleeper 0 = .ok (.aload_n 0, 1) := by decide +kernel
theorem dX7_sleeper_1 : decode cX7_sleeper 1 = .ok (.dup, 1) := by decide +kernel
theorem dX7_sleeper_2 : decode cX7_sleeper 2 = .ok (.getfield 215, 3) := by decide +kernel
theorem dX7_sleeper_5 : decode cX7_sleeper 5 = .ok (.ldc2_w 257, 3) := by decide +kernel
theorem dX7_sleeper_8 : decode cX7_sleeper 8 = .ok (.ladd, 1) := by decide +kernel
theorem dX7_sleeper_9 : decode cX7_sleeper 9 = .ok (.putfield 215, 3) := by decide +kernel
theorem dX7_sleeper_12 : decode cX7_sleeper 12 = .ok (.aload_n 0, 1) := by decide +kernel
theorem dX7_sleeper_13 : decode cX7_sleeper 13 = .ok (.getfield 219, 3) := by decide +kernel
theorem dX7_sleeper_16 : decode cX7_sleeper 16 = .ok (.bipush 6, 2) := by decide +kernel
theorem dX7_sleeper_18 : decode cX7_sleeper 18 = .ok (.if_icmp .ne 11, 3) := by decide +kernel
theorem dX7_sleeper_21 : decode cX7_sleeper 21 = .ok (.aload_n 0, 1) := by decide +kernel
theorem dX7_sleeper_22 : decode cX7_sleeper 22 = .ok (.iload_n 1, 1) := by decide +kernel
theorem dX7_sleeper_23 : decode cX7_sleeper 23 = .ok (.invokevirtual 251, 3) := by decide +kernel
theorem dX7_sleeper_26 : decode cX7_sleeper 26 = .ok (.goto 8, 3) := by decide +kernel
theorem dX7_sleeper_29 : decode cX7_sleeper 29 = .ok (.aload_n 0, 1) := by decide +kernel
theorem dX7_sleeper_30 : decode cX7_sleeper 30 = .ok (.iload_n 1, 1) := by decide +kernel
theorem dX7_sleeper_31 : decode cX7_sleeper 31 = .ok (.invokevirtual 259, 3) := by decide +kernel
theorem dX7_sleeper_34 : decode cX7_sleeper 34 = .ok (.return_, 1) := by decide +kernel
theorem dX7_hears_0 : decode cX7_hears 0 = .ok (.aload_n 0, 1) := by decide +kernel
theorem dX7_hears_1 : decode cX7_hears 1 = .ok (.dup, 1) := by decide +kernel
theorem dX7_hears_2 : decode cX7_hears 2 = .ok (.getfield 262, 3) := by decide +kernel
theorem dX7_hears_5 : decode cX7_hears 5 = .ok (.iconst 1, 1) := by decide +kernel
theorem dX7_hears_6 : decode cX7_hears 6 = .ok (.iadd, 1) := by decide +kernel
theorem dX7_hears_7 : decode cX7_hears 7 = .ok (.putfield 262, 3) := by decide +kernel
theorem dX7_hears_10 : decode cX7_hears 10 = .ok (.aload_n 0, 1) := by decide +kernel
theorem dX7_hears_11 : decode cX7_hears 11 = .ok (.getfield 13, 3) := by decide +kernel
theorem dX7_hears_14 : decode cX7_hears 14 = .ok (.iload_n 1, 1) := by decide +kernel
theorem dX7_hears_15 : decode cX7_hears 15 = .ok (.iaload, 1) := by decide +kernel
theorem dX7_hears_16 : decode cX7_hears 16 = .ok (.tableswitch 88 0 5 #[40, 48, 56, 64, 72, 80], 40) := by decide +kernel
theorem dX7_hears_56 : decode cX7_hears 56 = .ok (.aload_n 0, 1) := by decide +kernel
theorem dX7_hears_57 : decode cX7_hears 57 = .ok (.iload_n 1, 1) := by decide +kernel
theorem dX7_hears_58 : decode cX7_hears 58 = .ok (.invokevirtual 234, 3) := by decide +kernel
theorem dX7_hears_61 : decode cX7_hears 61 = .ok (.goto 48, 3) := by decide +kernel
theorem dX7_hears_64 : decode cX7_hears 64 = .ok (.aload_n 0, 1) := by decide +kernel
theorem dX7_hears_65 : decode cX7_hears 65 = .ok (.iload_n 1, 1) := by decide +kernel
theorem dX7_hears_66 : decode cX7_hears 66 = .ok (.invokevirtual 265, 3) := by decide +kernel
theorem dX7_hears_69 : decode cX7_hears 69 = .ok (.goto 40, 3) := by decide +kernel
theorem dX7_hears_72 : decode cX7_hears 72 = .ok (.aload_n 0, 1) := by decide +kernel
theorem dX7_hears_73 : decode cX7_hears 73 = .ok (.iload_n 1, 1) := by decide +kernel
theorem dX7_hears_74 : decode cX7_hears 74 = .ok (.invokevirtual 268, 3) := by decide +kernel
theorem dX7_hears_77 : decode cX7_hears 77 = .ok (.goto 32, 3) := by decide +kernel
theorem dX7_hears_80 : decode cX7_hears 80 = .ok (.aload_n 0, 1) := by decide +kernel
theorem dX7_hears_81 : decode cX7_hears 81 = .ok (.iload_n 1, 1) := by decide +kernel
theorem dX7_hears_82 : decode cX7_hears 82 = .ok (.invokevirtual 243, 3) := by decide +kernel
theorem dX7_hears_85 : decode cX7_hears 85 = .ok (.goto 24, 3) := by decide +kernel
theorem dX7_hears_88 : decode cX7_hears 88 = .ok (.aload_n 0, 1) := by decide +kernel
theorem dX7_hears_89 : decode cX7_hears 89 = .ok (.iload_n 1, 1) := by decide +kernel
theorem dX7_hears_90 : decode cX7_hears 90 = .ok (.invokevirtual 271, 3) := by decide +kernel
theorem dX7_hears_93 : decode cX7_hears 93 = .ok (.goto 16, 3) := by decide +kernel
theorem dX7_hears_96 : decode cX7_hears 96 = .ok (.aload_n 0, 1) := by decide +kernel
theorem dX7_hears_97 : decode cX7_hears 97 = .ok (.iload_n 1, 1) := by decide +kernel
theorem dX7_hears_98 : decode cX7_hears 98 = .ok (.invokevirtual 259, 3) := by decide +kernel
theorem dX7_hears_101 : decode cX7_hears 101 = .ok (.goto 8, 3) := by decide +kernel
theorem dX7_hears_104 : decode cX7_hears 104 = .ok (.aload_n 0, 1) := by decide +kernel
theorem dX7_hears_105 : decode cX7_hears 105 = .ok (.iload_n 1, 1) := by decide +kernel
theorem dX7_hears_106 : decode cX7_hears 106 = .ok (.invokevirtual 274, 3) := by decide +kernel
theorem dX7_hears_109 : decode cX7_hears 109 = .ok (.return_, 1) := by decide +kernel
theorem dX7_wake_0 : decode cX7_wake 0 = .ok (.aload_n 0, 1) := by decide +kernel
theorem dX7_wake_1 : decode cX7_wake 1 = .ok (.iload_n 1, 1) := by decide +kernel
theorem dX7_wake_2 : decode cX7_wake 2 = .ok (.invokevirtual 143, 3) := by decide +kernel
theorem dX7_wake_5 : decode cX7_wake 5 = .ok (.ifCond .eq 14, 3) := by decide +kernel
theorem dX7_wake_8 : decode cX7_wake 8 = .ok (.aload_n 0, 1) := by decide +kernel
theorem dX7_wake_9 : decode cX7_wake 9 = .ok (.getfield 13, 3) := by decide +kernel
theorem dX7_wake_12 : decode cX7_wake 12 = .ok (.iload_n 1, 1) := by decide +kernel
theorem dX7_wake_13 : decode cX7_wake 13 = .ok (.iaload, 1) := by decide +kernel
theorem dX7_wake_14 : decode cX7_wake 14 = .ok (.bipush 6, 2) := by decide +kernel
theorem dX7_wake_16 : decode cX7_wake 16 = .ok (.if_icmp .eq 5, 3) := by decide +kernel
theorem dX7_wake_19 : decode cX7_wake 19 = .ok (.iconst (-1), 1) := by decide +kernel
theorem dX7_wake_20 : decode cX7_wake 20 = .ok (.ireturn, 1) := by decide +kernel
theorem dX7_wake_21 : decode cX7_wake 21 = .ok (.aload_n 0, 1) := by decide +kernel
theorem dX7_wake_22 : decode cX7_wake 22 = .ok (.iload_n 1, 1) := by decide +kernel
theorem dX7_wake_23 : decode cX7_wake 23 = .ok (.iload_n 2, 1) := by decide +kernel
theorem dX7_wake_24 : decode cX7_wake 24 = .ok (.invokevirtual 254, 3) := by decide +kernel
theorem dX7_wake_27 : decode cX7_wake 27 = .ok (.istore_n 3, 1) := by decide +kernel
theorem dX7_wake_28 : decode cX7_wake 28 = .ok (.aload_n 0, 1) := by decide +kernel
theorem dX7_wake_29 : decode cX7_wake 29 = .ok (.invokevirtual 277, 3) := by decide +kernel
theorem dX7_wake_32 : decode cX7_wake 32 = .ok (.iload_n 3, 1) := by decide +kernel
theorem dX7_wake_33 : decode cX7_wake 33 = .ok (.ireturn, 1) := by decide +kernel
theorem dX7_isOf_0 : decode cX7_isOf 0 = .ok (.aload_n 0, 1) := by decide +kernel
theorem dX7_isOf_1 : decode cX7_isOf 1 = .ok (.getfield 35, 3) := by decide +kernel
theorem dX7_isOf_4 : decode cX7_isOf 4 = .ok (.iload_n 1, 1) := by decide +kernel
theorem dX7_isOf_5 : decode cX7_isOf 5 = .ok (.iaload, 1) := by decide +kernel
theorem dX7_isOf_6 : decode cX7_isOf 6 = .ok (.iload_n 2, 1) := by decide +kernel
theorem dX7_isOf_7 : decode cX7_isOf 7 = .ok (.if_icmp .eq 13, 3) := by decide +kernel
theorem dX7_isOf_10 : decode cX7_isOf 10 = .ok (.aload_n 0, 1) := by decide +kernel
theorem dX7_isOf_11 : decode cX7_isOf 11 = .ok (.getfield 38, 3) := by decide +kernel
theorem dX7_isOf_14 : decode cX7_isOf 14 = .ok (.iload_n 1, 1) := by decide +kernel
theorem dX7_isOf_15 : decode cX7_isOf 15 = .ok (.iaload, 1) := by decide +kernel
theorem dX7_isOf_16 : decode cX7_isOf 16 = .ok (.iload_n 2, 1) := by decide +kernel
theorem dX7_isOf_17 : decode cX7_isOf 17 = .ok (.if_icmp .ne 7, 3) := by decide +kernel
theorem dX7_isOf_20 : decode cX7_isOf 20 = .ok (.iconst 1, 1) := by decide +kernel
theorem dX7_isOf_21 : decode cX7_isOf 21 = .ok (.goto 4, 3) := by decide +kernel
theorem dX7_isOf_24 : decode cX7_isOf 24 = .ok (.iconst 0, 1) := by decide +kernel
theorem dX7_isOf_25 : decode cX7_isOf 25 = .ok (.ireturn, 1) := by decide +kernel
theorem dX7_ask_0 : decode cX7_ask 0 = .ok (.iload_n 2, 1) := by decide +kernel
theorem dX7_ask_1 : decode cX7_ask 1 = .ok (.ifCond .ne 11, 3) := by decide +kernel
theorem dX7_ask_4 : decode cX7_ask 4 = .ok (.aload_n 0, 1) := by decide +kernel
theorem dX7_ask_5 : decode cX7_ask 5 = .ok (.iload_n 3, 1) := by decide +kernel
theorem dX7_ask_6 : decode cX7_ask 6 = .ok (.invokevirtual 143, 3) := by decide +kernel
theorem dX7_ask_9 : decode cX7_ask 9 = .ok (.goto 21, 3) := by decide +kernel
theorem dX7_ask_12 : decode cX7_ask 12 = .ok (.iload_n 2, 1) := by decide +kernel
theorem dX7_ask_13 : decode cX7_ask 13 = .ok (.iconst 1, 1) := by decide +kernel
theorem dX7_ask_14 : decode cX7_ask 14 = .ok (.if_icmp .ne 15, 3) := by decide +kernel
theorem dX7_ask_17 : decode cX7_ask 17 = .ok (.aload_n 0, 1) := by decide +kernel
theorem dX7_ask_18 : decode cX7_ask 18 = .ok (.iload_n 3, 1) := by decide +kernel
theorem dX7_ask_19 : decode cX7_ask 19 = .ok (.invokevirtual 280, 3) := by decide +kernel
theorem dX7_ask_22 : decode cX7_ask 22 = .ok (.ifCond .eq 7, 3) := by decide +kernel
theorem dX7_ask_25 : decode cX7_ask 25 = .ok (.iconst 1, 1) := by decide +kernel
theorem dX7_ask_26 : decode cX7_ask 26 = .ok (.goto 4, 3) := by decide +kernel
theorem dX7_ask_29 : decode cX7_ask 29 = .ok (.iconst 0, 1) := by decide +kernel
theorem dX7_ask_30 : decode cX7_ask 30 = .ok (.istore 7, 2) := by decide +kernel
theorem dX7_ask_32 : decode cX7_ask 32 = .ok (.iload_n 1, 1) := by decide +kernel
theorem dX7_ask_33 : decode cX7_ask 33 = .ok (.iconst 0, 1) := by decide +kernel
theorem dX7_ask_34 : decode cX7_ask 34 = .ok (.iconst 3, 1) := by decide +kernel
theorem dX7_ask_35 : decode cX7_ask 35 = .ok (.invokestatic 132, 3) := by decide +kernel
theorem dX7_ask_38 : decode cX7_ask 38 = .ok (.ifCond .eq 34, 3) := by decide +kernel
theorem dX7_ask_41 : decode cX7_ask 41 = .ok (.iload 7, 2) := by decide +kernel
theorem dX7_ask_43 : decode cX7_ask 43 = .ok (.ifCond .eq 29, 3) := by decide +kernel
theorem dX7_ask_46 : decode cX7_ask 46 = .ok (.iload 4, 2) := by decide +kernel
theorem dX7_ask_48 : decode cX7_ask 48 = .ok (.iconst 0, 1) := by decide +kernel
theorem dX7_ask_49 : decode cX7_ask 49 = .ok (.bipush 7, 2) := by decide +kernel
theorem dX7_ask_51 : decode cX7_ask 51 = .ok (.invokestatic 132, 3) := by decide +kernel
theorem dX7_ask_54 : decode cX7_ask 54 = .ok (.ifCond .eq 18, 3) := by decide +kernel
theorem dX7_ask_57 : decode cX7_ask 57 = .ok (.iload 4, 2) := by decide +kernel
theorem dX7_ask_59 : decode cX7_ask 59 = .ok (.iconst 4, 1) := by decide +kernel
theorem dX7_ask_60 : decode cX7_ask 60 = .ok (.if_icmp .ne 14, 3) := by decide +kernel
theorem dX7_ask_63 : decode cX7_ask 63 = .ok (.aload_n 0, 1) := by decide +kernel
theorem dX7_ask_64 : decode cX7_ask 64 = .ok (.iload 6, 2) := by decide +kernel
theorem dX7_ask_66 : decode cX7_ask 66 = .ok (.invokevirtual 143, 3) := by decide +kernel
theorem dX7_ask_69 : decode cX7_ask 69 = .ok (.ifCond .ne 5, 3) := by decide +kernel
theorem dX7_ask_72 : decode cX7_ask 72 = .ok (.iconst (-1), 1) := by decide +kernel
theorem dX7_ask_73 : decode cX7_ask 73 = .ok (.ireturn, 1) := by decide +kernel
theorem dX7_ask_74 : decode cX7_ask 74 = .ok (.iload_n 2, 1) := by decide +kernel
theorem dX7_ask_75 : decode cX7_ask 75 = .ok (.iconst 1, 1) := by decide +kernel
theorem dX7_ask_76 : decode cX7_ask 76 = .ok (.if_icmp .ne 15, 3) := by decide +kernel
theorem dX7_ask_79 : decode cX7_ask 79 = .ok (.aload_n 0, 1) := by decide +kernel
theorem dX7_ask_80 : decode cX7_ask 80 = .ok (.iload_n 3, 1) := by decide +kernel
theorem dX7_ask_81 : decode cX7_ask 81 = .ok (.iload_n 1, 1) := by decide +kernel
theorem dX7_ask_82 : decode cX7_ask 82 = .ok (.invokevirtual 283, 3) := by decide +kernel
theorem dX7_ask_85 : decode cX7_ask 85 = .ok (.ifCond .ne 6, 3) := by decide +kernel
theorem dX7_ask_88 : decode cX7_ask 88 = .ok (.bipush (-2), 2) := by decide +kernel
theorem dX7_ask_90 : decode cX7_ask 90 = .ok (.ireturn, 1) := by decide +kernel
theorem dX7_ask_91 : decode cX7_ask 91 = .ok (.aload_n 0, 1) := by decide +kernel
theorem dX7_ask_92 : decode cX7_ask 92 = .ok (.getfield 136, 3) := by decide +kernel
theorem dX7_ask_95 : decode cX7_ask 95 = .ok (.bipush 100, 2) := by decide +kernel
theorem dX7_ask_97 : decode cX7_ask 97 = .ok (.if_icmp .ne 6, 3) := by decide +kernel
theorem dX7_ask_100 : decode cX7_ask 100 = .ok (.bipush (-3), 2) := by decide +kernel
theorem dX7_ask_102 : decode cX7_ask 102 = .ok (.ireturn, 1) := by decide +kernel
theorem dX7_ask_103 : decode cX7_ask 103 = .ok (.aload_n 0, 1) := by decide +kernel
theorem dX7_ask_104 : decode cX7_ask 104 = .ok (.getfield 136, 3) := by decide +kernel
theorem dX7_ask_107 : decode cX7_ask 107 = .ok (.istore 8, 2) := by decide +kernel
theorem dX7_ask_109 : decode cX7_ask 109 = .ok (.aload_n 0, 1) := by decide +kernel
theorem dX7_ask_110 : decode cX7_ask 110 = .ok (.dup, 1) := by decide +kernel
theorem dX7_ask_111 : decode cX7_ask 111 = .ok (.getfield 136, 3) := by decide +kernel
theorem dX7_ask_114 : decode cX7_ask 114 = .ok (.iconst 1, 1) := by decide +kernel
theorem dX7_ask_115 : decode cX7_ask 115 = .ok (.iadd, 1) := by decide +kernel
theorem dX7_ask_116 : decode cX7_ask 116 = .ok (.putfield 136, 3) := by decide +kernel
theorem dX7_ask_119 : decode cX7_ask 119 = .ok (.aload_n 0, 1) := by decide +kernel
theorem dX7_ask_120 : decode cX7_ask 120 = .ok (.getfield 35, 3) := by decide +kernel
theorem dX7_ask_123 : decode cX7_ask 123 = .ok (.iload 8, 2) := by decide +kernel
theorem dX7_ask_125 : decode cX7_ask 125 = .ok (.iload_n 1, 1) := by decide +kernel
theorem dX7_ask_126 : decode cX7_ask 126 = .ok (.iastore, 1) := by decide +kernel
theorem dX7_ask_127 : decode cX7_ask 127 = .ok (.aload_n 0, 1) := by decide +kernel
theorem dX7_ask_128 : decode cX7_ask 128 = .ok (.getfield 38, 3) := by decide +kernel
theorem dX7_ask_131 : decode cX7_ask 131 = .ok (.iload 8, 2) := by decide +kernel
theorem dX7_ask_133 : decode cX7_ask 133 = .ok (.iload_n 2, 1) := by decide +kernel
theorem dX7_ask_134 : decode cX7_ask 134 = .ok (.ifCond .ne 12, 3) := by decide +kernel
theorem dX7_ask_137 : decode cX7_ask 137 = .ok (.aload_n 0, 1) := by decide +kernel
theorem dX7_ask_138 : decode cX7_ask 138 = .ok (.getfield 7, 3) := by decide +kernel
theorem dX7_ask_141 : decode cX7_ask 141 = .ok (.iload_n 3, 1) := by decide +kernel
theorem dX7_ask_142 : decode cX7_ask 142 = .ok (.iaload, 1) := by decide +kernel
theorem dX7_ask_143 : decode cX7_ask 143 = .ok (.goto 9, 3) := by decide +kernel
theorem dX7_ask_146 : decode cX7_ask 146 = .ok (.aload_n 0, 1) := by decide +kernel
theorem dX7_ask_147 : decode cX7_ask 147 = .ok (.getfield 38, 3) := by decide +kernel
theorem dX7_ask_150 : decode cX7_ask 150 = .ok (.iload_n 3, 1) := by decide +kernel
theorem dX7_ask_151 : decode cX7_ask 151 = .ok (.iaload, 1) := by decide +kernel
theorem dX7_ask_152 : decode cX7_ask 152 = .ok (.iastore, 1) := by decide +kernel
theorem dX7_ask_153 : decode cX7_ask 153 = .ok (.aload_n 0, 1) := by decide +kernel
theorem dX7_ask_154 : decode cX7_ask 154 = .ok (.getfield 41, 3) := by decide +kernel
theorem dX7_ask_157 : decode cX7_ask 157 = .ok (.iload 8, 2) := by decide +kernel
theorem dX7_ask_159 : decode cX7_ask 159 = .ok (.iconst 0, 1) := by decide +kernel
theorem dX7_ask_160 : decode cX7_ask 160 = .ok (.iastore, 1) := by decide +kernel
theorem dX7_ask_161 : decode cX7_ask 161 = .ok (.aload_n 0, 1) := by decide +kernel
theorem dX7_ask_162 : decode cX7_ask 162 = .ok (.getfield 44, 3) := by decide +kernel
theorem dX7_ask_165 : decode cX7_ask 165 = .ok (.iload 8, 2) := by decide +kernel
theorem dX7_ask_167 : decode cX7_ask 167 = .ok (.iconst 0, 1) := by decide +kernel
theorem dX7_ask_168 : decode cX7_ask 168 = .ok (.iastore, 1) := by decide +kernel
theorem dX7_ask_169 : decode cX7_ask 169 = .ok (.aload_n 0, 1) := by decide +kernel
theorem dX7_ask_170 : decode cX7_ask 170 = .ok (.getfield 47, 3) := by decide +kernel
theorem dX7_ask_173 : decode cX7_ask 173 = .ok (.iload 8, 2) := by decide +kernel
theorem dX7_ask_175 : decode cX7_ask 175 = .ok (.iconst 0, 1) := by decide +kernel
theorem dX7_ask_176 : decode cX7_ask 176 = .ok (.iastore, 1) := by decide +kernel
theorem dX7_ask_177 : decode cX7_ask 177 = .ok (.aload_n 0, 1) := by decide +kernel
theorem dX7_ask_178 : decode cX7_ask 178 = .ok (.getfield 50, 3) := by decide +kernel
theorem dX7_ask_181 : decode cX7_ask 181 = .ok (.iload 8, 2) := by decide +kernel
theorem dX7_ask_183 : decode cX7_ask 183 = .ok (.iconst 0, 1) := by decide +kernel
theorem dX7_ask_184 : decode cX7_ask 184 = .ok (.iastore, 1) := by decide +kernel
theorem dX7_ask_185 : decode cX7_ask 185 = .ok (.aload_n 0, 1) := by decide +kernel
theorem dX7_ask_186 : decode cX7_ask 186 = .ok (.getfield 53, 3) := by decide +kernel
theorem dX7_ask_189 : decode cX7_ask 189 = .ok (.iload 8, 2) := by decide +kernel
theorem dX7_ask_191 : decode cX7_ask 191 = .ok (.iconst 0, 1) := by decide +kernel
theorem dX7_ask_192 : decode cX7_ask 192 = .ok (.iastore, 1) := by decide +kernel
theorem dX7_ask_193 : decode cX7_ask 193 = .ok (.aload_n 0, 1) := by decide +kernel
theorem dX7_ask_194 : decode cX7_ask 194 = .ok (.getfield 59, 3) := by decide +kernel
theorem dX7_ask_197 : decode cX7_ask 197 = .ok (.iload 8, 2) := by decide +kernel
theorem dX7_ask_199 : decode cX7_ask 199 = .ok (.iload 4, 2) := by decide +kernel
theorem dX7_ask_201 : decode cX7_ask 201 = .ok (.iastore, 1) := by decide +kernel
theorem dX7_ask_202 : decode cX7_ask 202 = .ok (.aload_n 0, 1) := by decide +kernel
theorem dX7_ask_203 : decode cX7_ask 203 = .ok (.getfield 62, 3) := by decide +kernel
theorem dX7_ask_206 : decode cX7_ask 206 = .ok (.iload 8, 2) := by decide +kernel
theorem dX7_ask_208 : decode cX7_ask 208 = .ok (.iload 5, 2) := by decide +kernel
theorem dX7_ask_210 : decode cX7_ask 210 = .ok (.iastore, 1) := by decide +kernel
theorem dX7_ask_211 : decode cX7_ask 211 = .ok (.aload_n 0, 1) := by decide +kernel
theorem dX7_ask_212 : decode cX7_ask 212 = .ok (.getfield 65, 3) := by decide +kernel
theorem dX7_ask_215 : decode cX7_ask 215 = .ok (.iload 8, 2) := by decide +kernel
theorem dX7_ask_217 : decode cX7_ask 217 = .ok (.iload 6, 2) := by decide +kernel
theorem dX7_ask_219 : decode cX7_ask 219 = .ok (.iastore, 1) := by decide +kernel
theorem dX7_ask_220 : decode cX7_ask 220 = .ok (.aload_n 0, 1) := by decide +kernel
theorem dX7_ask_221 : decode cX7_ask 221 = .ok (.getfield 68, 3) := by decide +kernel
theorem dX7_ask_224 : decode cX7_ask 224 = .ok (.iload 8, 2) := by decide +kernel
theorem dX7_ask_226 : decode cX7_ask 226 = .ok (.iconst (-1), 1) := by decide +kernel
theorem dX7_ask_227 : decode cX7_ask 227 = .ok (.iastore, 1) := by decide +kernel
theorem dX7_ask_228 : decode cX7_ask 228 = .ok (.aload_n 0, 1) := by decide +kernel
theorem dX7_ask_229 : decode cX7_ask 229 = .ok (.iload 8, 2) := by decide +kernel
theorem dX7_ask_231 : decode cX7_ask 231 = .ok (.iload_n 1, 1) := by decide +kernel
theorem dX7_ask_232 : decode cX7_ask 232 = .ok (.aload_n 0, 1) := by decide +kernel
theorem dX7_ask_233 : decode cX7_ask 233 = .ok (.getfield 38, 3) := by decide +kernel
theorem dX7_ask_236 : decode cX7_ask 236 = .ok (.iload 8, 2) := by decide +kernel
theorem dX7_ask_238 : decode cX7_ask 238 = .ok (.iaload, 1) := by decide +kernel
theorem dX7_ask_239 : decode cX7_ask 239 = .ok (.iload_n 2, 1) := by decide +kernel
theorem dX7_ask_240 : decode cX7_ask 240 = .ok (.ifCond .ne 7, 3) := by decide +kernel
theorem dX7_ask_243 : decode cX7_ask 243 = .ok (.iload_n 3, 1) := by decide +kernel
theorem dX7_ask_244 : decode cX7_ask 244 = .ok (.goto 5, 3) := by decide +kernel
theorem dX7_ask_247 : decode cX7_ask 247 = .ok (.bipush (-9), 2) := by decide +kernel
theorem dX7_ask_249 : decode cX7_ask 249 = .ok (.iload_n 2, 1) := by decide +kernel
theorem dX7_ask_250 : decode cX7_ask 250 = .ok (.ifCond .ne 8, 3) := by decide +kernel
theorem dX7_ask_253 : decode cX7_ask 253 = .ok (.bipush (-9), 2) := by decide +kernel
theorem dX7_ask_255 : decode cX7_ask 255 = .ok (.goto 4, 3) := by decide +kernel
theorem dX7_ask_258 : decode cX7_ask 258 = .ok (.iload_n 3, 1) := by decide +kernel
theorem dX7_ask_259 : decode cX7_ask 259 = .ok (.invokevirtual 192, 3) := by decide +kernel
theorem dX7_ask_262 : decode cX7_ask 262 = .ok (.aload_n 0, 1) := by decide +kernel
theorem dX7_ask_263 : decode cX7_ask 263 = .ok (.invokevirtual 277, 3) := by decide +kernel
theorem dX7_ask_266 : decode cX7_ask 266 = .ok (.iload 8, 2) := by decide +kernel
theorem dX7_ask_268 : decode cX7_ask 268 = .ok (.ireturn, 1) := by decide +kernel
theorem dX7_stateIn_0 : decode cX7_stateIn 0 = .ok (.aload_n 0, 1) := by decide +kernel
theorem dX7_stateIn_1 : decode cX7_stateIn 1 = .ok (.getfield 38, 3) := by decide +kernel
theorem dX7_stateIn_4 : decode cX7_stateIn 4 = .ok (.iload_n 1, 1) := by decide +kernel
theorem dX7_stateIn_5 : decode cX7_stateIn 5 = .ok (.iaload, 1) := by decide +kernel
theorem dX7_stateIn_6 : decode cX7_stateIn 6 = .ok (.iload_n 2, 1) := by decide +kernel
theorem dX7_stateIn_7 : decode cX7_stateIn 7 = .ok (.if_icmp .ne 12, 3) := by decide +kernel
theorem dX7_stateIn_10 : decode cX7_stateIn 10 = .ok (.aload_n 0, 1) := by decide +kernel
theorem dX7_stateIn_11 : decode cX7_stateIn 11 = .ok (.getfield 41, 3) := by decide +kernel
theorem dX7_stateIn_14 : decode cX7_stateIn 14 = .ok (.iload_n 1, 1) := by decide +kernel
theorem dX7_stateIn_15 : decode cX7_stateIn 15 = .ok (.iaload, 1) := by decide +kernel
theorem dX7_stateIn_16 : decode cX7_stateIn 16 = .ok (.goto 9, 3) := by decide +kernel
theorem dX7_stateIn_19 : decode cX7_stateIn 19 = .ok (.aload_n 0, 1) := by decide +kernel
theorem dX7_stateIn_20 : decode cX7_stateIn 20 = .ok (.getfield 47, 3) := by decide +kernel
theorem dX7_stateIn_23 : decode cX7_stateIn 23 = .ok (.iload_n 1, 1) := by decide +kernel
theorem dX7_stateIn_24 : decode cX7_stateIn 24 = .ok (.iaload, 1) := by decide +kernel
theorem dX7_stateIn_25 : decode cX7_stateIn 25 = .ok (.ireturn, 1) := by decide +kernel
theorem dX7_valueIn_0 : decode cX7_valueIn 0 = .ok (.aload_n 0, 1) := by decide +kernel
theorem dX7_valueIn_1 : decode cX7_valueIn 1 = .ok (.getfield 38, 3) := by decide +kernel
theorem dX7_valueIn_4 : decode cX7_valueIn 4 = .ok (.iload_n 1, 1) := by decide +kernel
theorem dX7_valueIn_5 : decode cX7_valueIn 5 = .ok (.iaload, 1) := by decide +kernel
theorem dX7_valueIn_6 : decode cX7_valueIn 6 = .ok (.iload_n 2, 1) := by decide +kernel
theorem dX7_valueIn_7 : decode cX7_valueIn 7 = .ok (.if_icmp .ne 12, 3) := by decide +kernel
theorem dX7_valueIn_10 : decode cX7_valueIn 10 = .ok (.aload_n 0, 1) := by decide +kernel
theorem dX7_valueIn_11 : decode cX7_valueIn 11 = .ok (.getfield 44, 3) := by decide +kernel
theorem dX7_valueIn_14 : decode cX7_valueIn 14 = .ok (.iload_n 1, 1) := by decide +kernel
theorem dX7_valueIn_15 : decode cX7_valueIn 15 = .ok (.iaload, 1) := by decide +kernel
theorem dX7_valueIn_16 : decode cX7_valueIn 16 = .ok (.goto 9, 3) := by decide +kernel
theorem dX7_valueIn_19 : decode cX7_valueIn 19 = .ok (.aload_n 0, 1) := by decide +kernel
theorem dX7_valueIn_20 : decode cX7_valueIn 20 = .ok (.getfield 50, 3) := by decide +kernel
theorem dX7_valueIn_23 : decode cX7_valueIn 23 = .ok (.iload_n 1, 1) := by decide +kernel
theorem dX7_valueIn_24 : decode cX7_valueIn 24 = .ok (.iaload, 1) := by decide +kernel
theorem dX7_valueIn_25 : decode cX7_valueIn 25 = .ok (.ireturn, 1) := by decide +kernel
theorem dX7_when_0 : decode cX7_when 0 = .ok (.iload_n 1, 1) := by decide +kernel
theorem dX7_when_1 : decode cX7_when 1 = .ok (.iconst 0, 1) := by decide +kernel
theorem dX7_when_2 : decode cX7_when 2 = .ok (.iconst 3, 1) := by decide +kernel
theorem dX7_when_3 : decode cX7_when 3 = .ok (.invokestatic 132, 3) := by decide +kernel
theorem dX7_when_6 : decode cX7_when 6 = .ok (.ifCond .eq 29, 3) := by decide +kernel
theorem dX7_when_9 : decode cX7_when 9 = .ok (.aload_n 0, 1) := by decide +kernel
theorem dX7_when_10 : decode cX7_when 10 = .ok (.iload_n 2, 1) := by decide +kernel
theorem dX7_when_11 : decode cX7_when 11 = .ok (.invokevirtual 280, 3) := by decide +kernel
theorem dX7_when_14 : decode cX7_when 14 = .ok (.ifCond .eq 21, 3) := by decide +kernel
theorem dX7_when_17 : decode cX7_when 17 = .ok (.aload_n 0, 1) := by decide +kernel
theorem dX7_when_18 : decode cX7_when 18 = .ok (.iload_n 3, 1) := by decide +kernel
theorem dX7_when_19 : decode cX7_when 19 = .ok (.invokevirtual 143, 3) := by decide +kernel
theorem dX7_when_22 : decode cX7_when 22 = .ok (.ifCond .eq 13, 3) := by decide +kernel
theorem dX7_when_25 : decode cX7_when 25 = .ok (.aload_n 0, 1) := by decide +kernel
theorem dX7_when_26 : decode cX7_when 26 = .ok (.getfield 7, 3) := by decide +kernel
theorem dX7_when_29 : decode cX7_when 29 = .ok (.iload_n 3, 1) := by decide +kernel
theorem dX7_when_30 : decode cX7_when 30 = .ok (.iaload, 1) := by decide +kernel
theorem dX7_when_31 : decode cX7_when 31 = .ok (.iload_n 1, 1) := by decide +kernel
theorem dX7_when_32 : decode cX7_when 32 = .ok (.if_icmp .eq 5, 3) := by decide +kernel
theorem dX7_when_35 : decode cX7_when 35 = .ok (.iconst (-1), 1) := by decide +kernel
theorem dX7_when_36 : decode cX7_when 36 = .ok (.ireturn, 1) := by decide +kernel
theorem dX7_when_37 : decode cX7_when 37 = .ok (.aload_n 0, 1) := by decide +kernel
theorem dX7_when_38 : decode cX7_when 38 = .ok (.iload_n 2, 1) := by decide +kernel
theorem dX7_when_39 : decode cX7_when 39 = .ok (.iload_n 1, 1) := by decide +kernel
theorem dX7_when_40 : decode cX7_when 40 = .ok (.invokevirtual 283, 3) := by decide +kernel
theorem dX7_when_43 : decode cX7_when 43 = .ok (.ifCond .ne 6, 3) := by decide +kernel
theorem dX7_when_46 : decode cX7_when 46 = .ok (.bipush (-2), 2) := by decide +kernel
theorem dX7_when_48 : decode cX7_when 48 = .ok (.ireturn, 1) := by decide +kernel
theorem dX7_when_49 : decode cX7_when 49 = .ok (.aload_n 0, 1) := by decide +kernel
theorem dX7_when_50 : decode cX7_when 50 = .ok (.getfield 158, 3) := by decide +kernel
theorem dX7_when_53 : decode cX7_when 53 = .ok (.bipush 40, 2) := by decide +kernel
theorem dX7_when_55 : decode cX7_when 55 = .ok (.if_icmp .ne 6, 3) := by decide +kernel
theorem dX7_when_58 : decode cX7_when 58 = .ok (.bipush (-3), 2) := by decide +kernel
theorem dX7_when_60 : decode cX7_when 60 = .ok (.ireturn, 1) := by decide +kernel
theorem dX7_when_61 : decode cX7_when 61 = .ok (.aload_n 0, 1) := by decide +kernel
theorem dX7_when_62 : decode cX7_when 62 = .ok (.getfield 77, 3) := by decide +kernel
theorem dX7_when_65 : decode cX7_when 65 = .ok (.aload_n 0, 1) := by decide +kernel
theorem dX7_when_66 : decode cX7_when 66 = .ok (.getfield 158, 3) := by decide +kernel
theorem dX7_when_69 : decode cX7_when 69 = .ok (.iload_n 2, 1) := by decide +kernel
theorem dX7_when_70 : decode cX7_when 70 = .ok (.iastore, 1) := by decide +kernel
theorem dX7_when_71 : decode cX7_when 71 = .ok (.aload_n 0, 1) := by decide +kernel
theorem dX7_when_72 : decode cX7_when 72 = .ok (.getfield 80, 3) := by decide +kernel
theorem dX7_when_75 : decode cX7_when 75 = .ok (.aload_n 0, 1) := by decide +kernel
theorem dX7_when_76 : decode cX7_when 76 = .ok (.getfield 158, 3) := by decide +kernel
theorem dX7_when_79 : decode cX7_when 79 = .ok (.iload_n 1, 1) := by decide +kernel
theorem dX7_when_80 : decode cX7_when 80 = .ok (.iastore, 1) := by decide +kernel
theorem dX7_when_81 : decode cX7_when 81 = .ok (.aload_n 0, 1) := by decide +kernel
theorem dX7_when_82 : decode cX7_when 82 = .ok (.getfield 83, 3) := by decide +kernel
theorem dX7_when_85 : decode cX7_when 85 = .ok (.aload_n 0, 1) := by decide +kernel
theorem dX7_when_86 : decode cX7_when 86 = .ok (.getfield 158, 3) := by decide +kernel
theorem dX7_when_89 : decode cX7_when 89 = .ok (.iload_n 3, 1) := by decide +kernel
theorem dX7_when_90 : decode cX7_when 90 = .ok (.iastore, 1) := by decide +kernel
theorem dX7_when_91 : decode cX7_when 91 = .ok (.aload_n 0, 1) := by decide +kernel
theorem dX7_when_92 : decode cX7_when 92 = .ok (.getfield 86, 3) := by decide +kernel
theorem dX7_when_95 : decode cX7_when 95 = .ok (.aload_n 0, 1) := by decide +kernel
theorem dX7_when_96 : decode cX7_when 96 = .ok (.getfield 158, 3) := by decide +kernel
theorem dX7_when_99 : decode cX7_when 99 = .ok (.iconst 0, 1) := by decide +kernel
theorem dX7_when_100 : decode cX7_when 100 = .ok (.bastore, 1) := by decide +kernel
theorem dX7_when_101 : decode cX7_when 101 = .ok (.aload_n 0, 1) := by decide +kernel
theorem dX7_when_102 : decode cX7_when 102 = .ok (.dup, 1) := by decide +kernel
theorem dX7_when_103 : decode cX7_when 103 = .ok (.getfield 158, 3) := by decide +kernel
theorem dX7_when_106 : decode cX7_when 106 = .ok (.iconst 1, 1) := by decide +kernel
theorem dX7_when_107 : decode cX7_when 107 = .ok (.iadd, 1) := by decide +kernel
theorem dX7_when_108 : decode cX7_when 108 = .ok (.putfield 158, 3) := by decide +kernel
theorem dX7_when_111 : decode cX7_when 111 = .ok (.aload_n 0, 1) := by decide +kernel
theorem dX7_when_112 : decode cX7_when 112 = .ok (.iload_n 2, 1) := by decide +kernel
theorem dX7_when_113 : decode cX7_when 113 = .ok (.iload_n 1, 1) := by decide +kernel
theorem dX7_when_114 : decode cX7_when 114 = .ok (.invokevirtual 287, 3) := by decide +kernel
theorem dX7_when_117 : decode cX7_when 117 = .ok (.ifCond .eq 25, 3) := by decide +kernel
theorem dX7_when_120 : decode cX7_when 120 = .ok (.aload_n 0, 1) := by decide +kernel
theorem dX7_when_121 : decode cX7_when 121 = .ok (.aload_n 0, 1) := by decide +kernel
theorem dX7_when_122 : decode cX7_when 122 = .ok (.getfield 158, 3) := by decide +kernel
theorem dX7_when_125 : decode cX7_when 125 = .ok (.iconst 1, 1) := by decide +kernel
theorem dX7_when_126 : decode cX7_when 126 = .ok (.isub, 1) := by decide +kernel
theorem dX7_when_127 : decode cX7_when 127 = .ok (.aload_n 0, 1) := by decide +kernel
theorem dX7_when_128 : decode cX7_when 128 = .ok (.iload_n 2, 1) := by decide +kernel
theorem dX7_when_129 : decode cX7_when 129 = .ok (.iload_n 1, 1) := by decide +kernel
theorem dX7_when_130 : decode cX7_when 130 = .ok (.invokevirtual 287, 3) := by decide +kernel
theorem dX7_when_133 : decode cX7_when 133 = .ok (.aload_n 0, 1) := by decide +kernel
theorem dX7_when_134 : decode cX7_when 134 = .ok (.iload_n 2, 1) := by decide +kernel
theorem dX7_when_135 : decode cX7_when 135 = .ok (.iload_n 1, 1) := by decide +kernel
theorem dX7_when_136 : decode cX7_when 136 = .ok (.invokevirtual 290, 3) := by decide +kernel
theorem dX7_when_139 : decode cX7_when 139 = .ok (.invokevirtual 161, 3) := by decide +kernel
theorem dX7_when_142 : decode cX7_when 142 = .ok (.aload_n 0, 1) := by decide +kernel
theorem dX7_when_143 : decode cX7_when 143 = .ok (.getfield 158, 3) := by decide +kernel
theorem dX7_when_146 : decode cX7_when 146 = .ok (.ireturn, 1) := by decide +kernel
theorem dX7_state_0 : decode cX7_state 0 = .ok (.aload_n 0, 1) := by decide +kernel
theorem dX7_state_1 : decode cX7_state 1 = .ok (.iload_n 1, 1) := by decide +kernel
theorem dX7_state_2 : decode cX7_state 2 = .ok (.invokevirtual 280, 3) := by decide +kernel
theorem dX7_state_5 : decode cX7_state 5 = .ok (.ifCond .eq 21, 3) := by decide +kernel
theorem dX7_state_8 : decode cX7_state 8 = .ok (.iload_n 2, 1) := by decide +kernel
theorem dX7_state_9 : decode cX7_state 9 = .ok (.iconst 0, 1) := by decide +kernel
theorem dX7_state_10 : decode cX7_state 10 = .ok (.iconst 3, 1) := by decide +kernel
theorem dX7_state_11 : decode cX7_state 11 = .ok (.invokestatic 132, 3) := by decide +kernel
theorem dX7_state_14 : decode cX7_state 14 = .ok (.ifCond .eq 12, 3) := by decide +kernel
theorem dX7_state_17 : decode cX7_state 17 = .ok (.iload_n 3, 1) := by decide +kernel
theorem dX7_state_18 : decode cX7_state 18 = .ok (.iconst 0, 1) := by decide +kernel
theorem dX7_state_19 : decode cX7_state 19 = .ok (.iconst 1, 1) := by decide +kernel
theorem dX7_state_20 : decode cX7_state 20 = .ok (.invokestatic 132, 3) := by decide +kernel
theorem dX7_state_23 : decode cX7_state 23 = .ok (.ifCond .ne 5, 3) := by decide +kernel
theorem dX7_state_26 : decode cX7_state 26 = .ok (.iconst (-1), 1) := by decide +kernel
theorem dX7_state_27 : decode cX7_state 27 = .ok (.ireturn, 1) := by decide +kernel
theorem dX7_state_28 : decode cX7_state 28 = .ok (.aload_n 0, 1) := by decide +kernel
theorem dX7_state_29 : decode cX7_state 29 = .ok (.iload_n 1, 1) := by decide +kernel
theorem dX7_state_30 : decode cX7_state 30 = .ok (.iload_n 2, 1) := by decide +kernel
theorem dX7_state_31 : decode cX7_state 31 = .ok (.invokevirtual 283, 3) := by decide +kernel
theorem dX7_state_34 : decode cX7_state 34 = .ok (.ifCond .ne 6, 3) := by decide +kernel
theorem dX7_state_37 : decode cX7_state 37 = .ok (.bipush (-2), 2) := by decide +kernel
theorem dX7_state_39 : decode cX7_state 39 = .ok (.ireturn, 1) := by decide +kernel
theorem dX7_state_40 : decode cX7_state 40 = .ok (.iload_n 3, 1) := by decide +kernel
theorem dX7_state_41 : decode cX7_state 41 = .ok (.ifCond .ne 12, 3) := by decide +kernel
theorem dX7_state_44 : decode cX7_state 44 = .ok (.aload_n 0, 1) := by decide +kernel
theorem dX7_state_45 : decode cX7_state 45 = .ok (.iload_n 1, 1) := by decide +kernel
theorem dX7_state_46 : decode cX7_state 46 = .ok (.iload_n 2, 1) := by decide +kernel
theorem dX7_state_47 : decode cX7_state 47 = .ok (.invokevirtual 287, 3) := by decide +kernel
theorem dX7_state_50 : decode cX7_state 50 = .ok (.goto 9, 3) := by decide +kernel
theorem dX7_state_53 : decode cX7_state 53 = .ok (.aload_n 0, 1) := by decide +kernel
theorem dX7_state_54 : decode cX7_state 54 = .ok (.iload_n 1, 1) := by decide +kernel
theorem dX7_state_55 : decode cX7_state 55 = .ok (.iload_n 2, 1) := by decide +kernel
theorem dX7_state_56 : decode cX7_state 56 = .ok (.invokevirtual 290, 3) := by decide +kernel
theorem dX7_state_59 : decode cX7_state 59 = .ok (.ireturn, 1) := by decide +kernel
theorem dX7_waitsFor_0 : decode cX7_waitsFor 0 = .ok (.iconst 0, 1) := by decide +kernel
theorem dX7_waitsFor_1 : decode cX7_waitsFor 1 = .ok (.istore_n 2, 1) := by decide +kernel
theorem dX7_waitsFor_2 : decode cX7_waitsFor 2 = .ok (.iconst 0, 1) := by decide +kernel
theorem dX7_waitsFor_3 : decode cX7_waitsFor 3 = .ok (.istore_n 3, 1) := by decide +kernel
theorem dX7_waitsFor_4 : decode cX7_waitsFor 4 = .ok (.iload_n 3, 1) := by decide +kernel
theorem dX7_waitsFor_5 : decode cX7_waitsFor 5 = .ok (.aload_n 0, 1) := by decide +kernel
theorem dX7_waitsFor_6 : decode cX7_waitsFor 6 = .ok (.getfield 136, 3) := by decide +kernel
theorem dX7_waitsFor_9 : decode cX7_waitsFor 9 = .ok (.if_icmp .ge 37, 3) := by decide +kernel
theorem dX7_waitsFor_12 : decode cX7_waitsFor 12 = .ok (.iload_n 2, 1) := by decide +kernel
theorem dX7_waitsFor_13 : decode cX7_waitsFor 13 = .ok (.aload_n 0, 1) := by decide +kernel
theorem dX7_waitsFor_14 : decode cX7_waitsFor 14 = .ok (.getfield 56, 3) := by decide +kernel
theorem dX7_waitsFor_17 : decode cX7_waitsFor 17 = .ok (.iload_n 3, 1) := by decide +kernel
theorem dX7_waitsFor_18 : decode cX7_waitsFor 18 = .ok (.iaload, 1) := by decide +kernel
theorem dX7_waitsFor_19 : decode cX7_waitsFor 19 = .ok (.iconst 2, 1) := by decide +kernel
theorem dX7_waitsFor_20 : decode cX7_waitsFor 20 = .ok (.if_icmp .ne 17, 3) := by decide +kernel
theorem dX7_waitsFor_23 : decode cX7_waitsFor 23 = .ok (.aload_n 0, 1) := by decide +kernel
theorem dX7_waitsFor_24 : decode cX7_waitsFor 24 = .ok (.getfield 71, 3) := by decide +kernel
theorem dX7_waitsFor_27 : decode cX7_waitsFor 27 = .ok (.iload_n 3, 1) := by decide +kernel
theorem dX7_waitsFor_28 : decode cX7_waitsFor 28 = .ok (.iaload, 1) := by decide +kernel
theorem dX7_waitsFor_29 : decode cX7_waitsFor 29 = .ok (.iload_n 1, 1) := by decide +kernel
theorem dX7_waitsFor_30 : decode cX7_waitsFor 30 = .ok (.if_icmp .ne 7, 3) := by decide +kernel
theorem dX7_waitsFor_33 : decode cX7_waitsFor 33 = .ok (.iconst 1, 1) := by decide +kernel
theorem dX7_waitsFor_34 : decode cX7_waitsFor 34 = .ok (.goto 4, 3) := by decide +kernel
theorem dX7_waitsFor_37 : decode cX7_waitsFor 37 = .ok (.iconst 0, 1) := by decide +kernel
theorem dX7_waitsFor_38 : decode cX7_waitsFor 38 = .ok (.iadd, 1) := by decide +kernel
theorem dX7_waitsFor_39 : decode cX7_waitsFor 39 = .ok (.istore_n 2, 1) := by decide +kernel
theorem dX7_waitsFor_40 : decode cX7_waitsFor 40 = .ok (.iinc 3 1, 3) := by decide +kernel
theorem dX7_waitsFor_43 : decode cX7_waitsFor 43 = .ok (.goto (-39), 3) := by decide +kernel
theorem dX7_waitsFor_46 : decode cX7_waitsFor 46 = .ok (.iload_n 2, 1) := by decide +kernel
theorem dX7_waitsFor_47 : decode cX7_waitsFor 47 = .ok (.ireturn, 1) := by decide +kernel
theorem dX7_promise_0 : decode cX7_promise 0 = .ok (.aload_n 0, 1) := by decide +kernel
theorem dX7_promise_1 : decode cX7_promise 1 = .ok (.iload_n 1, 1) := by decide +kernel
theorem dX7_promise_2 : decode cX7_promise 2 = .ok (.invokevirtual 280, 3) := by decide +kernel
theorem dX7_promise_5 : decode cX7_promise 5 = .ok (.ifCond .ne 5, 3) := by decide +kernel
theorem dX7_promise_8 : decode cX7_promise 8 = .ok (.iconst (-1), 1) := by decide +kernel
theorem dX7_promise_9 : decode cX7_promise 9 = .ok (.ireturn, 1) := by decide +kernel
theorem dX7_promise_10 : decode cX7_promise 10 = .ok (.iload_n 2, 1) := by decide +kernel
theorem dX7_promise_11 : decode cX7_promise 11 = .ok (.tableswitch 67 0 4 #[33, 40, 47, 53, 60], 33) := by decide +kernel
theorem dX7_promise_44 : decode cX7_promise 44 = .ok (.aload_n 0, 1) := by decide +kernel
theorem dX7_promise_45 : decode cX7_promise 45 = .ok (.getfield 35, 3) := by decide +kernel
theorem dX7_promise_48 : decode cX7_promise 48 = .ok (.iload_n 1, 1) := by decide +kernel
theorem dX7_promise_49 : decode cX7_promise 49 = .ok (.iaload, 1) := by decide +kernel
theorem dX7_promise_50 : decode cX7_promise 50 = .ok (.ireturn, 1) := by decide +kernel
theorem dX7_promise_51 : decode cX7_promise 51 = .ok (.aload_n 0, 1) := by decide +kernel
theorem dX7_promise_52 : decode cX7_promise 52 = .ok (.getfield 38, 3) := by decide +kernel
theorem dX7_promise_55 : decode cX7_promise 55 = .ok (.iload_n 1, 1) := by decide +kernel
theorem dX7_promise_56 : decode cX7_promise 56 = .ok (.iaload, 1) := by decide +kernel
theorem dX7_promise_57 : decode cX7_promise 57 = .ok (.ireturn, 1) := by decide +kernel
theorem dX7_promise_58 : decode cX7_promise 58 = .ok (.aload_n 0, 1) := by decide +kernel
theorem dX7_promise_59 : decode cX7_promise 59 = .ok (.iload_n 1, 1) := by decide +kernel
theorem dX7_promise_60 : decode cX7_promise 60 = .ok (.invokevirtual 293, 3) := by decide +kernel
theorem dX7_promise_63 : decode cX7_promise 63 = .ok (.ireturn, 1) := by decide +kernel
theorem dX7_promise_64 : decode cX7_promise 64 = .ok (.aload_n 0, 1) := by decide +kernel
theorem dX7_promise_65 : decode cX7_promise 65 = .ok (.getfield 53, 3) := by decide +kernel
theorem dX7_promise_68 : decode cX7_promise 68 = .ok (.iload_n 1, 1) := by decide +kernel
theorem dX7_promise_69 : decode cX7_promise 69 = .ok (.iaload, 1) := by decide +kernel
theorem dX7_promise_70 : decode cX7_promise 70 = .ok (.ireturn, 1) := by decide +kernel
theorem dX7_promise_71 : decode cX7_promise 71 = .ok (.aload_n 0, 1) := by decide +kernel
theorem dX7_promise_72 : decode cX7_promise 72 = .ok (.getfield 56, 3) := by decide +kernel
theorem dX7_promise_75 : decode cX7_promise 75 = .ok (.iload_n 1, 1) := by decide +kernel
theorem dX7_promise_76 : decode cX7_promise 76 = .ok (.iaload, 1) := by decide +kernel
theorem dX7_promise_77 : decode cX7_promise 77 = .ok (.ireturn, 1) := by decide +kernel
theorem dX7_promise_78 : decode cX7_promise 78 = .ok (.iconst (-1), 1) := by decide +kernel
theorem dX7_promise_79 : decode cX7_promise 79 = .ok (.ireturn, 1) := by decide +kernel
theorem dX7_firstLetter_0 : decode cX7_firstLetter 0 = .ok (.iconst 0, 1) := by decide +kernel
theorem dX7_firstLetter_1 : decode cX7_firstLetter 1 = .ok (.istore_n 3, 1) := by decide +kernel
theorem dX7_firstLetter_2 : decode cX7_firstLetter 2 = .ok (.iload_n 3, 1) := by decide +kernel
theorem dX7_firstLetter_3 : decode cX7_firstLetter 3 = .ok (.aload_n 0, 1) := by decide +kernel
theorem dX7_firstLetter_4 : decode cX7_firstLetter 4 = .ok (.getfield 147, 3) := by decide +kernel
theorem dX7_firstLetter_7 : decode cX7_firstLetter 7 = .ok (.if_icmp .ge 29, 3) := by decide +kernel
theorem dX7_firstLetter_10 : decode cX7_firstLetter 10 = .ok (.aload_n 0, 1) := by decide +kernel
theorem dX7_firstLetter_11 : decode cX7_firstLetter 11 = .ok (.getfield 92, 3) := by decide +kernel
theorem dX7_firstLetter_14 : decode cX7_firstLetter 14 = .ok (.iload_n 3, 1) := by decide +kernel
theorem dX7_firstLetter_15 : decode cX7_firstLetter 15 = .ok (.iaload, 1) := by decide +kernel
theorem dX7_firstLetter_16 : decode cX7_firstLetter 16 = .ok (.iload_n 1, 1) := by decide +kernel
theorem dX7_firstLetter_17 : decode cX7_firstLetter 17 = .ok (.if_icmp .ne 13, 3) := by decide +kernel
theorem dX7_firstLetter_20 : decode cX7_firstLetter 20 = .ok (.aload_n 0, 1) := by decide +kernel
theorem dX7_firstLetter_21 : decode cX7_firstLetter 21 = .ok (.getfield 95, 3) := by decide +kernel
theorem dX7_firstLetter_24 : decode cX7_firstLetter 24 = .ok (.iload_n 3, 1) := by decide +kernel
theorem dX7_firstLetter_25 : decode cX7_firstLetter 25 = .ok (.iaload, 1) := by decide +kernel
theorem dX7_firstLetter_26 : decode cX7_firstLetter 26 = .ok (.iload_n 2, 1) := by decide +kernel
theorem dX7_firstLetter_27 : decode cX7_firstLetter 27 = .ok (.if_icmp .eq 9, 3) := by decide +kernel
theorem dX7_firstLetter_30 : decode cX7_firstLetter 30 = .ok (.iinc 3 1, 3) := by decide +kernel
theorem dX7_firstLetter_33 : decode cX7_firstLetter 33 = .ok (.goto (-31), 3) := by decide +kernel
theorem dX7_firstLetter_36 : decode cX7_firstLetter 36 = .ok (.iload_n 3, 1) := by decide +kernel
theorem dX7_firstLetter_37 : decode cX7_firstLetter 37 = .ok (.ireturn, 1) := by decide +kernel
theorem dX7_takesOut_0 : decode cX7_takesOut 0 = .ok (.aload_n 0, 1) := by decide +kernel
theorem dX7_takesOut_1 : decode cX7_takesOut 1 = .ok (.aload_n 0, 1) := by decide +kernel
theorem dX7_takesOut_2 : decode cX7_takesOut 2 = .ok (.getfield 89, 3) := by decide +kernel
theorem dX7_takesOut_5 : decode cX7_takesOut 5 = .ok (.iload_n 1, 1) := by decide +kernel
theorem dX7_takesOut_6 : decode cX7_takesOut 6 = .ok (.iaload, 1) := by decide +kernel
theorem dX7_takesOut_7 : decode cX7_takesOut 7 = .ok (.putfield 297, 3) := by decide +kernel
theorem dX7_takesOut_10 : decode cX7_takesOut 10 = .ok (.aload_n 0, 1) := by decide +kernel
theorem dX7_takesOut_11 : decode cX7_takesOut 11 = .ok (.aload_n 0, 1) := by decide +kernel
theorem dX7_takesOut_12 : decode cX7_takesOut 12 = .ok (.getfield 92, 3) := by decide +kernel
theorem dX7_takesOut_15 : decode cX7_takesOut 15 = .ok (.iload_n 1, 1) := by decide +kernel
theorem dX7_takesOut_16 : decode cX7_takesOut 16 = .ok (.iaload, 1) := by decide +kernel
theorem dX7_takesOut_17 : decode cX7_takesOut 17 = .ok (.putfield 300, 3) := by decide +kernel
theorem dX7_takesOut_20 : decode cX7_takesOut 20 = .ok (.aload_n 0, 1) := by decide +kernel
theorem dX7_takesOut_21 : decode cX7_takesOut 21 = .ok (.aload_n 0, 1) := by decide +kernel
theorem dX7_takesOut_22 : decode cX7_takesOut 22 = .ok (.getfield 95, 3) := by decide +kernel
theorem dX7_takesOut_25 : decode cX7_takesOut 25 = .ok (.iload_n 1, 1) := by decide +kernel
theorem dX7_takesOut_26 : decode cX7_takesOut 26 = .ok (.iaload, 1) := by decide +kernel
theorem dX7_takesOut_27 : decode cX7_takesOut 27 = .ok (.putfield 303, 3) := by decide +kernel
theorem dX7_takesOut_30 : decode cX7_takesOut 30 = .ok (.aload_n 0, 1) := by decide +kernel
theorem dX7_takesOut_31 : decode cX7_takesOut 31 = .ok (.aload_n 0, 1) := by decide +kernel
theorem dX7_takesOut_32 : decode cX7_takesOut 32 = .ok (.getfield 98, 3) := by decide +kernel
theorem dX7_takesOut_35 : decode cX7_takesOut 35 = .ok (.iload_n 1, 1) := by decide +kernel
theorem dX7_takesOut_36 : decode cX7_takesOut 36 = .ok (.iaload, 1) := by decide +kernel
theorem dX7_takesOut_37 : decode cX7_takesOut 37 = .ok (.putfield 306, 3) := by decide +kernel
theorem dX7_takesOut_40 : decode cX7_takesOut 40 = .ok (.aload_n 0, 1) := by decide +kernel
theorem dX7_takesOut_41 : decode cX7_takesOut 41 = .ok (.aload_n 0, 1) := by decide +kernel
theorem dX7_takesOut_42 : decode cX7_takesOut 42 = .ok (.getfield 101, 3) := by decide +kernel
theorem dX7_takesOut_45 : decode cX7_takesOut 45 = .ok (.iload_n 1, 1) := by decide +kernel
theorem dX7_takesOut_46 : decode cX7_takesOut 46 = .ok (.iaload, 1) := by decide +kernel
theorem dX7_takesOut_47 : decode cX7_takesOut 47 = .ok (.putfield 309, 3) := by decide +kernel
theorem dX7_takesOut_50 : decode cX7_takesOut 50 = .ok (.aload_n 0, 1) := by decide +kernel
theorem dX7_takesOut_51 : decode cX7_takesOut 51 = .ok (.aload_n 0, 1) := by decide +kernel
theorem dX7_takesOut_52 : decode cX7_takesOut 52 = .ok (.getfield 104, 3) := by decide +kernel
theorem dX7_takesOut_55 : decode cX7_takesOut 55 = .ok (.iload_n 1, 1) := by decide +kernel
theorem dX7_takesOut_56 : decode cX7_takesOut 56 = .ok (.iaload, 1) := by decide +kernel
theorem dX7_takesOut_57 : decode cX7_takesOut 57 = .ok (.putfield 312, 3) := by decide +kernel
theorem dX7_takesOut_60 : decode cX7_takesOut 60 = .ok (.aload_n 0, 1) := by decide +kernel
theorem dX7_takesOut_61 : decode cX7_takesOut 61 = .ok (.aload_n 0, 1) := by decide +kernel
theorem dX7_takesOut_62 : decode cX7_takesOut 62 = .ok (.getfield 107, 3) := by decide +kernel
theorem dX7_takesOut_65 : decode cX7_takesOut 65 = .ok (.iload_n 1, 1) := by decide +kernel
theorem dX7_takesOut_66 : decode cX7_takesOut 66 = .ok (.iaload, 1) := by decide +kernel
theorem dX7_takesOut_67 : decode cX7_takesOut 67 = .ok (.putfield 315, 3) := by decide +kernel
theorem dX7_takesOut_70 : decode cX7_takesOut 70 = .ok (.aload_n 0, 1) := by decide +kernel
theorem dX7_takesOut_71 : decode cX7_takesOut 71 = .ok (.aload_n 0, 1) := by decide +kernel
theorem dX7_takesOut_72 : decode cX7_takesOut 72 = .ok (.getfield 110, 3) := by decide +kernel
theorem dX7_takesOut_75 : decode cX7_takesOut 75 = .ok (.iload_n 1, 1) := by decide +kernel
theorem dX7_takesOut_76 : decode cX7_takesOut 76 = .ok (.iaload, 1) := by decide +kernel
theorem dX7_takesOut_77 : decode cX7_takesOut 77 = .ok (.putfield 318, 3) := by decide +kernel
theorem dX7_takesOut_80 : decode cX7_takesOut 80 = .ok (.aload_n 0, 1) := by decide +kernel
theorem dX7_takesOut_81 : decode cX7_takesOut 81 = .ok (.aload_n 0, 1) := by decide +kernel
theorem dX7_takesOut_82 : decode cX7_takesOut 82 = .ok (.getfield 113, 3) := by decide +kernel
theorem dX7_takesOut_85 : decode cX7_takesOut 85 = .ok (.iload_n 1, 1) := by decide +kernel
theorem dX7_takesOut_86 : decode cX7_takesOut 86 = .ok (.baload, 1) := by decide +kernel
theorem dX7_takesOut_87 : decode cX7_takesOut 87 = .ok (.putfield 321, 3) := by decide +kernel
theorem dX7_takesOut_90 : decode cX7_takesOut 90 = .ok (.aload_n 0, 1) := by decide +kernel
theorem dX7_takesOut_91 : decode cX7_takesOut 91 = .ok (.dup, 1) := by decide +kernel
theorem dX7_takesOut_92 : decode cX7_takesOut 92 = .ok (.getfield 147, 3) := by decide +kernel
theorem dX7_takesOut_95 : decode cX7_takesOut 95 = .ok (.iconst 1, 1) := by decide +kernel
theorem dX7_takesOut_96 : decode cX7_takesOut 96 = .ok (.isub, 1) := by decide +kernel
theorem dX7_takesOut_97 : decode cX7_takesOut 97 = .ok (.putfield 147, 3) := by decide +kernel
theorem dX7_takesOut_100 : decode cX7_takesOut 100 = .ok (.iload_n 1, 1) := by decide +kernel
theorem dX7_takesOut_101 : decode cX7_takesOut 101 = .ok (.istore_n 2, 1) := by decide +kernel
theorem dX7_takesOut_102 : decode cX7_takesOut 102 = .ok (.iload_n 2, 1) := by decide +kernel
theorem dX7_takesOut_103 : decode cX7_takesOut 103 = .ok (.aload_n 0, 1) := by decide +kernel
theorem dX7_takesOut_104 : decode cX7_takesOut 104 = .ok (.getfield 147, 3) := by decide +kernel
theorem dX7_takesOut_107 : decode cX7_takesOut 107 = .ok (.if_icmp .ge 135, 3) := by decide +kernel
theorem dX7_takesOut_110 : decode cX7_takesOut 110 = .ok (.aload_n 0, 1) := by decide +kernel
theorem dX7_takesOut_111 : decode cX7_takesOut 111 = .ok (.getfield 89, 3) := by decide +kernel
theorem dX7_takesOut_114 : decode cX7_takesOut 114 = .ok (.iload_n 2, 1) := by decide +kernel
theorem dX7_takesOut_115 : decode cX7_takesOut 115 = .ok (.aload_n 0, 1) := by decide +kernel
theorem dX7_takesOut_116 : decode cX7_takesOut 116 = .ok (.getfield 89, 3) := by decide +kernel
theorem dX7_takesOut_119 : decode cX7_takesOut 119 = .ok (.iload_n 2, 1) := by decide +kernel
theorem dX7_takesOut_120 : decode cX7_takesOut 120 = .ok (.iconst 1, 1) := by decide +kernel
theorem dX7_takesOut_121 : decode cX7_takesOut 121 = .ok (.iadd, 1) := by decide +kernel
theorem dX7_takesOut_122 : decode cX7_takesOut 122 = .ok (.iaload, 1) := by decide +kernel
theorem dX7_takesOut_123 : decode cX7_takesOut 123 = .ok (.iastore, 1) := by decide +kernel
theorem dX7_takesOut_124 : decode cX7_takesOut 124 = .ok (.aload_n 0, 1) := by decide +kernel
theorem dX7_takesOut_125 : decode cX7_takesOut 125 = .ok (.getfield 92, 3) := by decide +kernel
theorem dX7_takesOut_128 : decode cX7_takesOut 128 = .ok (.iload_n 2, 1) := by decide +kernel
theorem dX7_takesOut_129 : decode cX7_takesOut 129 = .ok (.aload_n 0, 1) := by decide +kernel
theorem dX7_takesOut_130 : decode cX7_takesOut 130 = .ok (.getfield 92, 3) := by decide +kernel
theorem dX7_takesOut_133 : decode cX7_takesOut 133 = .ok (.iload_n 2, 1) := by decide +kernel
theorem dX7_takesOut_134 : decode cX7_takesOut 134 = .ok (.iconst 1, 1) := by decide +kernel
theorem dX7_takesOut_135 : decode cX7_takesOut 135 = .ok (.iadd, 1) := by decide +kernel
theorem dX7_takesOut_136 : decode cX7_takesOut 136 = .ok (.iaload, 1) := by decide +kernel
theorem dX7_takesOut_137 : decode cX7_takesOut 137 = .ok (.iastore, 1) := by decide +kernel
theorem dX7_takesOut_138 : decode cX7_takesOut 138 = .ok (.aload_n 0, 1) := by decide +kernel
theorem dX7_takesOut_139 : decode cX7_takesOut 139 = .ok (.getfield 95, 3) := by decide +kernel
theorem dX7_takesOut_142 : decode cX7_takesOut 142 = .ok (.iload_n 2, 1) := by decide +kernel
theorem dX7_takesOut_143 : decode cX7_takesOut 143 = .ok (.aload_n 0, 1) := by decide +kernel
theorem dX7_takesOut_144 : decode cX7_takesOut 144 = .ok (.getfield 95, 3) := by decide +kernel
theorem dX7_takesOut_147 : decode cX7_takesOut 147 = .ok (.iload_n 2, 1) := by decide +kernel
theorem dX7_takesOut_148 : decode cX7_takesOut 148 = .ok (.iconst 1, 1) := by decide +kernel
theorem dX7_takesOut_149 : decode cX7_takesOut 149 = .ok (.iadd, 1) := by decide +kernel
theorem dX7_takesOut_150 : decode cX7_takesOut 150 = .ok (.iaload, 1) := by decide +kernel
theorem dX7_takesOut_151 : decode cX7_takesOut 151 = .ok (.iastore, 1) := by decide +kernel
theorem dX7_takesOut_152 : decode cX7_takesOut 152 = .ok (.aload_n 0, 1) := by decide +kernel
theorem dX7_takesOut_153 : decode cX7_takesOut 153 = .ok (.getfield 98, 3) := by decide +kernel
theorem dX7_takesOut_156 : decode cX7_takesOut 156 = .ok (.iload_n 2, 1) := by decide +kernel
theorem dX7_takesOut_157 : decode cX7_takesOut 157 = .ok (.aload_n 0, 1) := by decide +kernel
theorem dX7_takesOut_158 : decode cX7_takesOut 158 = .ok (.getfield 98, 3) := by decide +kernel
theorem dX7_takesOut_161 : decode cX7_takesOut 161 = .ok (.iload_n 2, 1) := by decide +kernel
theorem dX7_takesOut_162 : decode cX7_takesOut 162 = .ok (.iconst 1, 1) := by decide +kernel
theorem dX7_takesOut_163 : decode cX7_takesOut 163 = .ok (.iadd, 1) := by decide +kernel
theorem dX7_takesOut_164 : decode cX7_takesOut 164 = .ok (.iaload, 1) := by decide +kernel
theorem dX7_takesOut_165 : decode cX7_takesOut 165 = .ok (.iastore, 1) := by decide +kernel
theorem dX7_takesOut_166 : decode cX7_takesOut 166 = .ok (.aload_n 0, 1) := by decide +kernel
theorem dX7_takesOut_167 : decode cX7_takesOut 167 = .ok (.getfield 101, 3) := by decide +kernel
theorem dX7_takesOut_170 : decode cX7_takesOut 170 = .ok (.iload_n 2, 1) := by decide +kernel
theorem dX7_takesOut_171 : decode cX7_takesOut 171 = .ok (.aload_n 0, 1) := by decide +kernel
theorem dX7_takesOut_172 : decode cX7_takesOut 172 = .ok (.getfield 101, 3) := by decide +kernel
theorem dX7_takesOut_175 : decode cX7_takesOut 175 = .ok (.iload_n 2, 1) := by decide +kernel
theorem dX7_takesOut_176 : decode cX7_takesOut 176 = .ok (.iconst 1, 1) := by decide +kernel
theorem dX7_takesOut_177 : decode cX7_takesOut 177 = .ok (.iadd, 1) := by decide +kernel
theorem dX7_takesOut_178 : decode cX7_takesOut 178 = .ok (.iaload, 1) := by decide +kernel
theorem dX7_takesOut_179 : decode cX7_takesOut 179 = .ok (.iastore, 1) := by decide +kernel
theorem dX7_takesOut_180 : decode cX7_takesOut 180 = .ok (.aload_n 0, 1) := by decide +kernel
theorem dX7_takesOut_181 : decode cX7_takesOut 181 = .ok (.getfield 104, 3) := by decide +kernel
theorem dX7_takesOut_184 : decode cX7_takesOut 184 = .ok (.iload_n 2, 1) := by decide +kernel
theorem dX7_takesOut_185 : decode cX7_takesOut 185 = .ok (.aload_n 0, 1) := by decide +kernel
theorem dX7_takesOut_186 : decode cX7_takesOut 186 = .ok (.getfield 104, 3) := by decide +kernel
theorem dX7_takesOut_189 : decode cX7_takesOut 189 = .ok (.iload_n 2, 1) := by decide +kernel
theorem dX7_takesOut_190 : decode cX7_takesOut 190 = .ok (.iconst 1, 1) := by decide +kernel
theorem dX7_takesOut_191 : decode cX7_takesOut 191 = .ok (.iadd, 1) := by decide +kernel
theorem dX7_takesOut_192 : decode cX7_takesOut 192 = .ok (.iaload, 1) := by decide +kernel
theorem dX7_takesOut_193 : decode cX7_takesOut 193 = .ok (.iastore, 1) := by decide +kernel
theorem dX7_takesOut_194 : decode cX7_takesOut 194 = .ok (.aload_n 0, 1) := by decide +kernel
theorem dX7_takesOut_195 : decode cX7_takesOut 195 = .ok (.getfield 107, 3) := by decide +kernel
theorem dX7_takesOut_198 : decode cX7_takesOut 198 = .ok (.iload_n 2, 1) := by decide +kernel
theorem dX7_takesOut_199 : decode cX7_takesOut 199 = .ok (.aload_n 0, 1) := by decide +kernel
theorem dX7_takesOut_200 : decode cX7_takesOut 200 = .ok (.getfield 107, 3) := by decide +kernel
theorem dX7_takesOut_203 : decode cX7_takesOut 203 = .ok (.iload_n 2, 1) := by decide +kernel
theorem dX7_takesOut_204 : decode cX7_takesOut 204 = .ok (.iconst 1, 1) := by decide +kernel
theorem dX7_takesOut_205 : decode cX7_takesOut 205 = .ok (.iadd, 1) := by decide +kernel
theorem dX7_takesOut_206 : decode cX7_takesOut 206 = .ok (.iaload, 1) := by decide +kernel
theorem dX7_takesOut_207 : decode cX7_takesOut 207 = .ok (.iastore, 1) := by decide +kernel
theorem dX7_takesOut_208 : decode cX7_takesOut 208 = .ok (.aload_n 0, 1) := by decide +kernel
theorem dX7_takesOut_209 : decode cX7_takesOut 209 = .ok (.getfield 110, 3) := by decide +kernel
theorem dX7_takesOut_212 : decode cX7_takesOut 212 = .ok (.iload_n 2, 1) := by decide +kernel
theorem dX7_takesOut_213 : decode cX7_takesOut 213 = .ok (.aload_n 0, 1) := by decide +kernel
theorem dX7_takesOut_214 : decode cX7_takesOut 214 = .ok (.getfield 110, 3) := by decide +kernel
theorem dX7_takesOut_217 : decode cX7_takesOut 217 = .ok (.iload_n 2, 1) := by decide +kernel
theorem dX7_takesOut_218 : decode cX7_takesOut 218 = .ok (.iconst 1, 1) := by decide +kernel
theorem dX7_takesOut_219 : decode cX7_takesOut 219 = .ok (.iadd, 1) := by decide +kernel
theorem dX7_takesOut_220 : decode cX7_takesOut 220 = .ok (.iaload, 1) := by decide +kernel
theorem dX7_takesOut_221 : decode cX7_takesOut 221 = .ok (.iastore, 1) := by decide +kernel
theorem dX7_takesOut_222 : decode cX7_takesOut 222 = .ok (.aload_n 0, 1) := by decide +kernel
theorem dX7_takesOut_223 : decode cX7_takesOut 223 = .ok (.getfield 113, 3) := by decide +kernel
theorem dX7_takesOut_226 : decode cX7_takesOut 226 = .ok (.iload_n 2, 1) := by decide +kernel
theorem dX7_takesOut_227 : decode cX7_takesOut 227 = .ok (.aload_n 0, 1) := by decide +kernel
theorem dX7_takesOut_228 : decode cX7_takesOut 228 = .ok (.getfield 113, 3) := by decide +kernel
theorem dX7_takesOut_231 : decode cX7_takesOut 231 = .ok (.iload_n 2, 1) := by decide +kernel
theorem dX7_takesOut_232 : decode cX7_takesOut 232 = .ok (.iconst 1, 1) := by decide +kernel
theorem dX7_takesOut_233 : decode cX7_takesOut 233 = .ok (.iadd, 1) := by decide +kernel
theorem dX7_takesOut_234 : decode cX7_takesOut 234 = .ok (.baload, 1) := by decide +kernel
theorem dX7_takesOut_235 : decode cX7_takesOut 235 = .ok (.bastore, 1) := by decide +kernel
theorem dX7_takesOut_236 : decode cX7_takesOut 236 = .ok (.iinc 2 1, 3) := by decide +kernel
theorem dX7_takesOut_239 : decode cX7_takesOut 239 = .ok (.goto (-137), 3) := by decide +kernel
theorem dX7_takesOut_242 : decode cX7_takesOut 242 = .ok (.return_, 1) := by decide +kernel
theorem dX7_comesToThing_0 : decode cX7_comesToThing 0 = .ok (.aload_n 0, 1) := by decide +kernel
theorem dX7_comesToThing_1 : decode cX7_comesToThing 1 = .ok (.aload_n 0, 1) := by decide +kernel
theorem dX7_comesToThing_2 : decode cX7_comesToThing 2 = .ok (.getfield 297, 3) := by decide +kernel
theorem dX7_comesToThing_5 : decode cX7_comesToThing 5 = .ok (.ifCond .ne 10, 3) := by decide +kernel
theorem dX7_comesToThing_8 : decode cX7_comesToThing 8 = .ok (.aload_n 0, 1) := by decide +kernel
theorem dX7_comesToThing_9 : decode cX7_comesToThing 9 = .ok (.getfield 306, 3) := by decide +kernel
theorem dX7_comesToThing_12 : decode cX7_comesToThing 12 = .ok (.goto 5, 3) := by decide +kernel
theorem dX7_comesToThing_15 : decode cX7_comesToThing 15 = .ok (.bipush (-9), 2) := by decide +kernel
theorem dX7_comesToThing_17 : decode cX7_comesToThing 17 = .ok (.putfield 209, 3) := by decide +kernel
theorem dX7_comesToThing_20 : decode cX7_comesToThing 20 = .ok (.aload_n 0, 1) := by decide +kernel
theorem dX7_comesToThing_21 : decode cX7_comesToThing 21 = .ok (.aload_n 0, 1) := by decide +kernel
theorem dX7_comesToThing_22 : decode cX7_comesToThing 22 = .ok (.getfield 209, 3) := by decide +kernel
theorem dX7_comesToThing_25 : decode cX7_comesToThing 25 = .ok (.ifCond .lt 15, 3) := by decide +kernel
theorem dX7_comesToThing_28 : decode cX7_comesToThing 28 = .ok (.aload_n 0, 1) := by decide +kernel
theorem dX7_comesToThing_29 : decode cX7_comesToThing 29 = .ok (.getfield 59, 3) := by decide +kernel
theorem dX7_comesToThing_32 : decode cX7_comesToThing 32 = .ok (.aload_n 0, 1) := by decide +kernel
theorem dX7_comesToThing_33 : decode cX7_comesToThing 33 = .ok (.getfield 209, 3) := by decide +kernel
theorem dX7_comesToThing_36 : decode cX7_comesToThing 36 = .ok (.iaload, 1) := by decide +kernel
theorem dX7_comesToThing_37 : decode cX7_comesToThing 37 = .ok (.goto 4, 3) := by decide +kernel
theorem dX7_comesToThing_40 : decode cX7_comesToThing 40 = .ok (.iconst 2, 1) := by decide +kernel
theorem dX7_comesToThing_41 : decode cX7_comesToThing 41 = .ok (.putfield 219, 3) := by decide +kernel
theorem dX7_comesToThing_44 : decode cX7_comesToThing 44 = .ok (.aload_n 0, 1) := by decide +kernel
theorem dX7_comesToThing_45 : decode cX7_comesToThing 45 = .ok (.aload_n 0, 1) := by decide +kernel
theorem dX7_comesToThing_46 : decode cX7_comesToThing 46 = .ok (.getfield 209, 3) := by decide +kernel
theorem dX7_comesToThing_49 : decode cX7_comesToThing 49 = .ok (.ifCond .lt 15, 3) := by decide +kernel
theorem dX7_comesToThing_52 : decode cX7_comesToThing 52 = .ok (.aload_n 0, 1) := by decide +kernel
theorem dX7_comesToThing_53 : decode cX7_comesToThing 53 = .ok (.getfield 62, 3) := by decide +kernel
theorem dX7_comesToThing_56 : decode cX7_comesToThing 56 = .ok (.aload_n 0, 1) := by decide +kernel
theorem dX7_comesToThing_57 : decode cX7_comesToThing 57 = .ok (.getfield 209, 3) := by decide +kernel
theorem dX7_comesToThing_60 : decode cX7_comesToThing 60 = .ok (.iaload, 1) := by decide +kernel
theorem dX7_comesToThing_61 : decode cX7_comesToThing 61 = .ok (.goto 7, 3) := by decide +kernel
theorem dX7_comesToThing_64 : decode cX7_comesToThing 64 = .ok (.aload_n 0, 1) := by decide +kernel
theorem dX7_comesToThing_65 : decode cX7_comesToThing 65 = .ok (.getfield 315, 3) := by decide +kernel
theorem dX7_comesToThing_68 : decode cX7_comesToThing 68 = .ok (.putfield 222, 3) := by decide +kernel
theorem dX7_comesToThing_71 : decode cX7_comesToThing 71 = .ok (.aload_n 0, 1) := by decide +kernel
theorem dX7_comesToThing_72 : decode cX7_comesToThing 72 = .ok (.getfield 209, 3) := by decide +kernel
theorem dX7_comesToThing_75 : decode cX7_comesToThing 75 = .ok (.ifCond .lt 13, 3) := by decide +kernel
theorem dX7_comesToThing_78 : decode cX7_comesToThing 78 = .ok (.aload_n 0, 1) := by decide +kernel
theorem dX7_comesToThing_79 : decode cX7_comesToThing 79 = .ok (.getfield 68, 3) := by decide +kernel
theorem dX7_comesToThing_82 : decode cX7_comesToThing 82 = .ok (.aload_n 0, 1) := by decide +kernel
theorem dX7_comesToThing_83 : decode cX7_comesToThing 83 = .ok (.getfield 209, 3) := by decide +kernel
theorem dX7_comesToThing_86 : decode cX7_comesToThing 86 = .ok (.iconst (-1), 1) := by decide +kernel
theorem dX7_comesToThing_87 : decode cX7_comesToThing 87 = .ok (.iastore, 1) := by decide +kernel
theorem dX7_comesToThing_88 : decode cX7_comesToThing 88 = .ok (.aload_n 0, 1) := by decide +kernel
theorem dX7_comesToThing_89 : decode cX7_comesToThing 89 = .ok (.aload_n 0, 1) := by decide +kernel
theorem dX7_comesToThing_90 : decode cX7_comesToThing 90 = .ok (.getfield 309, 3) := by decide +kernel
theorem dX7_comesToThing_93 : decode cX7_comesToThing 93 = .ok (.invokevirtual 325, 3) := by decide +kernel
theorem dX7_comesToThing_96 : decode cX7_comesToThing 96 = .ok (.return_, 1) := by decide +kernel
theorem dX7_comesToPromise_0 : decode cX7_comesToPromise 0 = .ok (.aload_n 0, 1) := by decide +kernel
theorem dX7_comesToPromise_1 : decode cX7_comesToPromise 1 = .ok (.getfield 306, 3) := by decide +kernel
theorem dX7_comesToPromise_4 : decode cX7_comesToPromise 4 = .ok (.istore_n 1, 1) := by decide +kernel
theorem dX7_comesToPromise_5 : decode cX7_comesToPromise 5 = .ok (.aload_n 0, 1) := by decide +kernel
theorem dX7_comesToPromise_6 : decode cX7_comesToPromise 6 = .ok (.getfield 312, 3) := by decide +kernel
theorem dX7_comesToPromise_9 : decode cX7_comesToPromise 9 = .ok (.istore_n 2, 1) := by decide +kernel
theorem dX7_comesToPromise_10 : decode cX7_comesToPromise 10 = .ok (.aload_n 0, 1) := by decide +kernel
theorem dX7_comesToPromise_11 : decode cX7_comesToPromise 11 = .ok (.getfield 41, 3) := by decide +kernel
theorem dX7_comesToPromise_14 : decode cX7_comesToPromise 14 = .ok (.iload_n 2, 1) := by decide +kernel
theorem dX7_comesToPromise_15 : decode cX7_comesToPromise 15 = .ok (.iaload, 1) := by decide +kernel
theorem dX7_comesToPromise_16 : decode cX7_comesToPromise 16 = .ok (.ifCond .ne 40, 3) := by decide +kernel
theorem dX7_comesToPromise_19 : decode cX7_comesToPromise 19 = .ok (.aload_n 0, 1) := by decide +kernel
theorem dX7_comesToPromise_20 : decode cX7_comesToPromise 20 = .ok (.getfield 56, 3) := by decide +kernel
theorem dX7_comesToPromise_23 : decode cX7_comesToPromise 23 = .ok (.iload_n 1, 1) := by decide +kernel
theorem dX7_comesToPromise_24 : decode cX7_comesToPromise 24 = .ok (.iconst 2, 1) := by decide +kernel
theorem dX7_comesToPromise_25 : decode cX7_comesToPromise 25 = .ok (.iastore, 1) := by decide +kernel
theorem dX7_comesToPromise_26 : decode cX7_comesToPromise 26 = .ok (.aload_n 0, 1) := by decide +kernel
theorem dX7_comesToPromise_27 : decode cX7_comesToPromise 27 = .ok (.getfield 71, 3) := by decide +kernel
theorem dX7_comesToPromise_30 : decode cX7_comesToPromise 30 = .ok (.iload_n 1, 1) := by decide +kernel
theorem dX7_comesToPromise_31 : decode cX7_comesToPromise 31 = .ok (.iload_n 2, 1) := by decide +kernel
theorem dX7_comesToPromise_32 : decode cX7_comesToPromise 32 = .ok (.iastore, 1) := by decide +kernel
theorem dX7_comesToPromise_33 : decode cX7_comesToPromise 33 = .ok (.aload_n 0, 1) := by decide +kernel
theorem dX7_comesToPromise_34 : decode cX7_comesToPromise 34 = .ok (.getfield 74, 3) := by decide +kernel
theorem dX7_comesToPromise_37 : decode cX7_comesToPromise 37 = .ok (.iload_n 1, 1) := by decide +kernel
theorem dX7_comesToPromise_38 : decode cX7_comesToPromise 38 = .ok (.aload_n 0, 1) := by decide +kernel
theorem dX7_comesToPromise_39 : decode cX7_comesToPromise 39 = .ok (.getfield 246, 3) := by decide +kernel
theorem dX7_comesToPromise_42 : decode cX7_comesToPromise 42 = .ok (.iastore, 1) := by decide +kernel
theorem dX7_comesToPromise_43 : decode cX7_comesToPromise 43 = .ok (.aload_n 0, 1) := by decide +kernel
theorem dX7_comesToPromise_44 : decode cX7_comesToPromise 44 = .ok (.dup, 1) := by decide +kernel
theorem dX7_comesToPromise_45 : decode cX7_comesToPromise 45 = .ok (.getfield 246, 3) := by decide +kernel
theorem dX7_comesToPromise_48 : decode cX7_comesToPromise 48 = .ok (.iconst 1, 1) := by decide +kernel
theorem dX7_comesToPromise_49 : decode cX7_comesToPromise 49 = .ok (.iadd, 1) := by decide +kernel
theorem dX7_comesToPromise_50 : decode cX7_comesToPromise 50 = .ok (.putfield 246, 3) := by decide +kernel
theorem dX7_comesToPromise_53 : decode cX7_comesToPromise 53 = .ok (.goto 26, 3) := by decide +kernel
theorem dX7_comesToPromise_56 : decode cX7_comesToPromise 56 = .ok (.aload_n 0, 1) := by decide +kernel
theorem dX7_comesToPromise_57 : decode cX7_comesToPromise 57 = .ok (.iload_n 1, 1) := by decide +kernel
theorem dX7_comesToPromise_58 : decode cX7_comesToPromise 58 = .ok (.aload_n 0, 1) := by decide +kernel
theorem dX7_comesToPromise_59 : decode cX7_comesToPromise 59 = .ok (.getfield 38, 3) := by decide +kernel
theorem dX7_comesToPromise_62 : decode cX7_comesToPromise 62 = .ok (.iload_n 2, 1) := by decide +kernel
theorem dX7_comesToPromise_63 : decode cX7_comesToPromise 63 = .ok (.iaload, 1) := by decide +kernel
theorem dX7_comesToPromise_64 : decode cX7_comesToPromise 64 = .ok (.aload_n 0, 1) := by decide +kernel
theorem dX7_comesToPromise_65 : decode cX7_comesToPromise 65 = .ok (.getfield 41, 3) := by decide +kernel
theorem dX7_comesToPromise_68 : decode cX7_comesToPromise 68 = .ok (.iload_n 2, 1) := by decide +kernel
theorem dX7_comesToPromise_69 : decode cX7_comesToPromise 69 = .ok (.iaload, 1) := by decide +kernel
theorem dX7_comesToPromise_70 : decode cX7_comesToPromise 70 = .ok (.aload_n 0, 1) := by decide +kernel
theorem dX7_comesToPromise_71 : decode cX7_comesToPromise 71 = .ok (.getfield 44, 3) := by decide +kernel
theorem dX7_comesToPromise_74 : decode cX7_comesToPromise 74 = .ok (.iload_n 2, 1) := by decide +kernel
theorem dX7_comesToPromise_75 : decode cX7_comesToPromise 75 = .ok (.iaload, 1) := by decide +kernel
theorem dX7_comesToPromise_76 : decode cX7_comesToPromise 76 = .ok (.invokevirtual 203, 3) := by decide +kernel
theorem dX7_comesToPromise_79 : decode cX7_comesToPromise 79 = .ok (.return_, 1) := by decide +kernel
theorem dX7_delivers_0 : decode cX7_delivers 0 = .ok (.aload_n 0, 1) := by decide +kernel
theorem dX7_delivers_1 : decode cX7_delivers 1 = .ok (.iload_n 1, 1) := by decide +kernel
theorem dX7_delivers_2 : decode cX7_delivers 2 = .ok (.invokevirtual 328, 3) := by decide +kernel
theorem dX7_delivers_5 : decode cX7_delivers 5 = .ok (.aload_n 0, 1) := by decide +kernel
theorem dX7_delivers_6 : decode cX7_delivers 6 = .ok (.getfield 297, 3) := by decide +kernel
theorem dX7_delivers_9 : decode cX7_delivers 9 = .ok (.iconst 1, 1) := by decide +kernel
theorem dX7_delivers_10 : decode cX7_delivers 10 = .ok (.if_icmp .ne 26, 3) := by decide +kernel
theorem dX7_delivers_13 : decode cX7_delivers 13 = .ok (.aload_n 0, 1) := by decide +kernel
theorem dX7_delivers_14 : decode cX7_delivers 14 = .ok (.aload_n 0, 1) := by decide +kernel
theorem dX7_delivers_15 : decode cX7_delivers 15 = .ok (.getfield 306, 3) := by decide +kernel
theorem dX7_delivers_18 : decode cX7_delivers 18 = .ok (.aload_n 0, 1) := by decide +kernel
theorem dX7_delivers_19 : decode cX7_delivers 19 = .ok (.getfield 315, 3) := by decide +kernel
theorem dX7_delivers_22 : decode cX7_delivers 22 = .ok (.aload_n 0, 1) := by decide +kernel
theorem dX7_delivers_23 : decode cX7_delivers 23 = .ok (.getfield 318, 3) := by decide +kernel
theorem dX7_delivers_26 : decode cX7_delivers 26 = .ok (.aload_n 0, 1) := by decide +kernel
theorem dX7_delivers_27 : decode cX7_delivers 27 = .ok (.getfield 321, 3) := by decide +kernel
theorem dX7_delivers_30 : decode cX7_delivers 30 = .ok (.invokevirtual 177, 3) := by decide +kernel
theorem dX7_delivers_33 : decode cX7_delivers 33 = .ok (.goto 21, 3) := by decide +kernel
theorem dX7_delivers_36 : decode cX7_delivers 36 = .ok (.aload_n 0, 1) := by decide +kernel
theorem dX7_delivers_37 : decode cX7_delivers 37 = .ok (.getfield 309, 3) := by decide +kernel
theorem dX7_delivers_40 : decode cX7_delivers 40 = .ok (.ifCond .lt 10, 3) := by decide +kernel
theorem dX7_delivers_43 : decode cX7_delivers 43 = .ok (.aload_n 0, 1) := by decide +kernel
theorem dX7_delivers_44 : decode cX7_delivers 44 = .ok (.invokevirtual 331, 3) := by decide +kernel
theorem dX7_delivers_47 : decode cX7_delivers 47 = .ok (.goto 7, 3) := by decide +kernel
theorem dX7_delivers_50 : decode cX7_delivers 50 = .ok (.aload_n 0, 1) := by decide +kernel
theorem dX7_delivers_51 : decode cX7_delivers 51 = .ok (.invokevirtual 334, 3) := by decide +kernel
theorem dX7_delivers_54 : decode cX7_delivers 54 = .ok (.aload_n 0, 1) := by decide +kernel
theorem dX7_delivers_55 : decode cX7_delivers 55 = .ok (.getfield 297, 3) := by decide +kernel
theorem dX7_delivers_58 : decode cX7_delivers 58 = .ok (.istore_n 2, 1) := by decide +kernel
theorem dX7_delivers_59 : decode cX7_delivers 59 = .ok (.aload_n 0, 1) := by decide +kernel
theorem dX7_delivers_60 : decode cX7_delivers 60 = .ok (.invokevirtual 277, 3) := by decide +kernel
theorem dX7_delivers_63 : decode cX7_delivers 63 = .ok (.iload_n 2, 1) := by decide +kernel
theorem dX7_delivers_64 : decode cX7_delivers 64 = .ok (.ireturn, 1) := by decide +kernel
theorem dX7_areHouses_0 : decode cX7_areHouses 0 = .ok (.iload_n 0, 1) := by decide +kernel
theorem dX7_areHouses_1 : decode cX7_areHouses 1 = .ok (.iconst 0, 1) := by decide +kernel
theorem dX7_areHouses_2 : decode cX7_areHouses 2 = .ok (.iconst 3, 1) := by decide +kernel
theorem dX7_areHouses_3 : decode cX7_areHouses 3 = .ok (.invokestatic 132, 3) := by decide +kernel
theorem dX7_areHouses_6 : decode cX7_areHouses 6 = .ok (.ifCond .eq 16, 3) := by decide +kernel
theorem dX7_areHouses_9 : decode cX7_areHouses 9 = .ok (.iload_n 1, 1) := by decide +kernel
theorem dX7_areHouses_10 : decode cX7_areHouses 10 = .ok (.iconst 0, 1) := by decide +kernel
theorem dX7_areHouses_11 : decode cX7_areHouses 11 = .ok (.iconst 3, 1) := by decide +kernel
theorem dX7_areHouses_12 : decode cX7_areHouses 12 = .ok (.invokestatic 132, 3) := by decide +kernel
theorem dX7_areHouses_15 : decode cX7_areHouses 15 = .ok (.ifCond .eq 7, 3) := by decide +kernel
theorem dX7_areHouses_18 : decode cX7_areHouses 18 = .ok (.iconst 1, 1) := by decide +kernel
theorem dX7_areHouses_19 : decode cX7_areHouses 19 = .ok (.goto 4, 3) := by decide +kernel
theorem dX7_areHouses_22 : decode cX7_areHouses 22 = .ok (.iconst 0, 1) := by decide +kernel
theorem dX7_areHouses_23 : decode cX7_areHouses 23 = .ok (.ireturn, 1) := by decide +kernel
theorem dX7_deliver_0 : decode cX7_deliver 0 = .ok (.iload_n 1, 1) := by decide +kernel
theorem dX7_deliver_1 : decode cX7_deliver 1 = .ok (.iload_n 2, 1) := by decide +kernel
theorem dX7_deliver_2 : decode cX7_deliver 2 = .ok (.invokestatic 337, 3) := by decide +kernel
theorem dX7_deliver_5 : decode cX7_deliver 5 = .ok (.ifCond .ne 5, 3) := by decide +kernel
theorem dX7_deliver_8 : decode cX7_deliver 8 = .ok (.iconst (-1), 1) := by decide +kernel
theorem dX7_deliver_9 : decode cX7_deliver 9 = .ok (.ireturn, 1) := by decide +kernel
theorem dX7_deliver_10 : decode cX7_deliver 10 = .ok (.aload_n 0, 1) := by decide +kernel
theorem dX7_deliver_11 : decode cX7_deliver 11 = .ok (.iload_n 1, 1) := by decide +kernel
theorem dX7_deliver_12 : decode cX7_deliver 12 = .ok (.iload_n 2, 1) := by decide +kernel
theorem dX7_deliver_13 : decode cX7_deliver 13 = .ok (.invokevirtual 340, 3) := by decide +kernel
theorem dX7_deliver_16 : decode cX7_deliver 16 = .ok (.istore_n 3, 1) := by decide +kernel
theorem dX7_deliver_17 : decode cX7_deliver 17 = .ok (.iload_n 3, 1) := by decide +kernel
theorem dX7_deliver_18 : decode cX7_deliver 18 = .ok (.aload_n 0, 1) := by decide +kernel
theorem dX7_deliver_19 : decode cX7_deliver 19 = .ok (.getfield 147, 3) := by decide +kernel
theorem dX7_deliver_22 : decode cX7_deliver 22 = .ok (.if_icmp .ge 11, 3) := by decide +kernel
theorem dX7_deliver_25 : decode cX7_deliver 25 = .ok (.aload_n 0, 1) := by decide +kernel
theorem dX7_deliver_26 : decode cX7_deliver 26 = .ok (.iload_n 3, 1) := by decide +kernel
theorem dX7_deliver_27 : decode cX7_deliver 27 = .ok (.invokevirtual 343, 3) := by decide +kernel
theorem dX7_deliver_30 : decode cX7_deliver 30 = .ok (.goto 5, 3) := by decide +kernel
theorem dX7_deliver_33 : decode cX7_deliver 33 = .ok (.bipush (-9), 2) := by decide +kernel
theorem dX7_deliver_35 : decode cX7_deliver 35 = .ok (.ireturn, 1) := by decide +kernel
theorem dX7_flow_0 : decode cX7_flow 0 = .ok (.iload_n 1, 1) := by decide +kernel
theorem dX7_flow_1 : decode cX7_flow 1 = .ok (.iconst 1, 1) := by decide +kernel
theorem dX7_flow_2 : decode cX7_flow 2 = .ok (.bipush 100, 2) := by decide +kernel
theorem dX7_flow_4 : decode cX7_flow 4 = .ok (.invokestatic 132, 3) := by decide +kernel
theorem dX7_flow_7 : decode cX7_flow 7 = .ok (.ifCond .ne 5, 3) := by decide +kernel
theorem dX7_flow_10 : decode cX7_flow 10 = .ok (.iconst (-1), 1) := by decide +kernel
theorem dX7_flow_11 : decode cX7_flow 11 = .ok (.ireturn, 1) := by decide +kernel
theorem dX7_flow_12 : decode cX7_flow 12 = .ok (.iconst 0, 1) := by decide +kernel
theorem dX7_flow_13 : decode cX7_flow 13 = .ok (.istore_n 2, 1) := by decide +kernel
theorem dX7_flow_14 : decode cX7_flow 14 = .ok (.iload_n 2, 1) := by decide +kernel
theorem dX7_flow_15 : decode cX7_flow 15 = .ok (.iload_n 1, 1) := by decide +kernel
theorem dX7_flow_16 : decode cX7_flow 16 = .ok (.if_icmp .ge 85, 3) := by decide +kernel
theorem dX7_flow_19 : decode cX7_flow 19 = .ok (.aload_n 0, 1) := by decide +kernel
theorem dX7_flow_20 : decode cX7_flow 20 = .ok (.getfield 147, 3) := by decide +kernel
theorem dX7_flow_23 : decode cX7_flow 23 = .ok (.ifCond .le 78, 3) := by decide +kernel
theorem dX7_flow_26 : decode cX7_flow 26 = .ok (.iconst 0, 1) := by decide +kernel
theorem dX7_flow_27 : decode cX7_flow 27 = .ok (.istore_n 3, 1) := by decide +kernel
theorem dX7_flow_28 : decode cX7_flow 28 = .ok (.iconst 1, 1) := by decide +kernel
theorem dX7_flow_29 : decode cX7_flow 29 = .ok (.istore 4, 2) := by decide +kernel
theorem dX7_flow_31 : decode cX7_flow 31 = .ok (.iload 4, 2) := by decide +kernel
theorem dX7_flow_33 : decode cX7_flow 33 = .ok (.aload_n 0, 1) := by decide +kernel
theorem dX7_flow_34 : decode cX7_flow 34 = .ok (.getfield 147, 3) := by decide +kernel
theorem dX7_flow_37 : decode cX7_flow 37 = .ok (.if_icmp .ge 51, 3) := by decide +kernel
theorem dX7_flow_40 : decode cX7_flow 40 = .ok (.iconst 4, 1) := by decide +kernel
theorem dX7_flow_41 : decode cX7_flow 41 = .ok (.aload_n 0, 1) := by decide +kernel
theorem dX7_flow_42 : decode cX7_flow 42 = .ok (.getfield 92, 3) := by decide +kernel
theorem dX7_flow_45 : decode cX7_flow 45 = .ok (.iload 4, 2) := by decide +kernel
theorem dX7_flow_47 : decode cX7_flow 47 = .ok (.iaload, 1) := by decide +kernel
theorem dX7_flow_48 : decode cX7_flow 48 = .ok (.imul, 1) := by decide +kernel
theorem dX7_flow_49 : decode cX7_flow 49 = .ok (.aload_n 0, 1) := by decide +kernel
theorem dX7_flow_50 : decode cX7_flow 50 = .ok (.getfield 95, 3) := by decide +kernel
theorem dX7_flow_53 : decode cX7_flow 53 = .ok (.iload 4, 2) := by decide +kernel
theorem dX7_flow_55 : decode cX7_flow 55 = .ok (.iaload, 1) := by decide +kernel
theorem dX7_flow_56 : decode cX7_flow 56 = .ok (.iadd, 1) := by decide +kernel
theorem dX7_flow_57 : decode cX7_flow 57 = .ok (.iconst 4, 1) := by decide +kernel
theorem dX7_flow_58 : decode cX7_flow 58 = .ok (.aload_n 0, 1) := by decide +kernel
theorem dX7_flow_59 : decode cX7_flow 59 = .ok (.getfield 92, 3) := by decide +kernel
theorem dX7_flow_62 : decode cX7_flow 62 = .ok (.iload_n 3, 1) := by decide +kernel
theorem dX7_flow_63 : decode cX7_flow 63 = .ok (.iaload, 1) := by decide +kernel
theorem dX7_flow_64 : decode cX7_flow 64 = .ok (.imul, 1) := by decide +kernel
theorem dX7_flow_65 : decode cX7_flow 65 = .ok (.aload_n 0, 1) := by decide +kernel
theorem dX7_flow_66 : decode cX7_flow 66 = .ok (.getfield 95, 3) := by decide +kernel
theorem dX7_flow_69 : decode cX7_flow 69 = .ok (.iload_n 3, 1) := by decide +kernel
theorem dX7_flow_70 : decode cX7_flow 70 = .ok (.iaload, 1) := by decide +kernel
theorem dX7_flow_71 : decode cX7_flow 71 = .ok (.iadd, 1) := by decide +kernel
theorem dX7_flow_72 : decode cX7_flow 72 = .ok (.if_icmp .ge 8, 3) := by decide +kernel
theorem dX7_flow_75 : decode cX7_flow 75 = .ok (.iload 4, 2) := by decide +kernel
theorem dX7_flow_77 : decode cX7_flow 77 = .ok (.goto 4, 3) := by decide +kernel
theorem dX7_flow_80 : decode cX7_flow 80 = .ok (.iload_n 3, 1) := by decide +kernel
theorem dX7_flow_81 : decode cX7_flow 81 = .ok (.istore_n 3, 1) := by decide +kernel
theorem dX7_flow_82 : decode cX7_flow 82 = .ok (.iinc 4 1, 3) := by decide +kernel
theorem dX7_flow_85 : decode cX7_flow 85 = .ok (.goto (-54), 3) := by decide +kernel
theorem dX7_flow_88 : decode cX7_flow 88 = .ok (.aload_n 0, 1) := by decide +kernel
theorem dX7_flow_89 : decode cX7_flow 89 = .ok (.iload_n 3, 1) := by decide +kernel
theorem dX7_flow_90 : decode cX7_flow 90 = .ok (.invokevirtual 343, 3) := by decide +kernel
theorem dX7_flow_93 : decode cX7_flow 93 = .ok (.istore 4, 2) := by decide +kernel
theorem dX7_flow_95 : decode cX7_flow 95 = .ok (.iinc 2 1, 3) := by decide +kernel
theorem dX7_flow_98 : decode cX7_flow 98 = .ok (.goto (-84), 3) := by decide +kernel
theorem dX7_flow_101 : decode cX7_flow 101 = .ok (.iload_n 2, 1) := by decide +kernel
theorem dX7_flow_102 : decode cX7_flow 102 = .ok (.ireturn, 1) := by decide +kernel
theorem dX7_losesAll_0 : decode cX7_losesAll 0 = .ok (.iconst 0, 1) := by decide +kernel
theorem dX7_losesAll_1 : decode cX7_losesAll 1 = .ok (.istore_n 3, 1) := by decide +kernel
theorem dX7_losesAll_2 : decode cX7_losesAll 2 = .ok (.aload_n 0, 1) := by decide +kernel
theorem dX7_losesAll_3 : decode cX7_losesAll 3 = .ok (.iload_n 1, 1) := by decide +kernel
theorem dX7_losesAll_4 : decode cX7_losesAll 4 = .ok (.iload_n 2, 1) := by decide +kernel
theorem dX7_losesAll_5 : decode cX7_losesAll 5 = .ok (.invokevirtual 340, 3) := by decide +kernel
theorem dX7_losesAll_8 : decode cX7_losesAll 8 = .ok (.istore 4, 2) := by decide +kernel
theorem dX7_losesAll_10 : decode cX7_losesAll 10 = .ok (.iload 4, 2) := by decide +kernel
theorem dX7_losesAll_12 : decode cX7_losesAll 12 = .ok (.aload_n 0, 1) := by decide +kernel
theorem dX7_losesAll_13 : decode cX7_losesAll 13 = .ok (.getfield 147, 3) := by decide +kernel
theorem dX7_losesAll_16 : decode cX7_losesAll 16 = .ok (.if_icmp .ge 68, 3) := by decide +kernel
theorem dX7_losesAll_19 : decode cX7_losesAll 19 = .ok (.aload_n 0, 1) := by decide +kernel
theorem dX7_losesAll_20 : decode cX7_losesAll 20 = .ok (.iload 4, 2) := by decide +kernel
theorem dX7_losesAll_22 : decode cX7_losesAll 22 = .ok (.invokevirtual 328, 3) := by decide +kernel
theorem dX7_losesAll_25 : decode cX7_losesAll 25 = .ok (.aload_n 0, 1) := by decide +kernel
theorem dX7_losesAll_26 : decode cX7_losesAll 26 = .ok (.getfield 297, 3) := by decide +kernel
theorem dX7_losesAll_29 : decode cX7_losesAll 29 = .ok (.ifCond .ne 15, 3) := by decide +kernel
theorem dX7_losesAll_32 : decode cX7_losesAll 32 = .ok (.aload_n 0, 1) := by decide +kernel
theorem dX7_losesAll_33 : decode cX7_losesAll 33 = .ok (.aload_n 0, 1) := by decide +kernel
theorem dX7_losesAll_34 : decode cX7_losesAll 34 = .ok (.getfield 306, 3) := by decide +kernel
theorem dX7_losesAll_37 : decode cX7_losesAll 37 = .ok (.iload_n 1, 1) := by decide +kernel
theorem dX7_losesAll_38 : decode cX7_losesAll 38 = .ok (.invokevirtual 188, 3) := by decide +kernel
theorem dX7_losesAll_41 : decode cX7_losesAll 41 = .ok (.goto 25, 3) := by decide +kernel
theorem dX7_losesAll_44 : decode cX7_losesAll 44 = .ok (.aload_n 0, 1) := by decide +kernel
theorem dX7_losesAll_45 : decode cX7_losesAll 45 = .ok (.getfield 297, 3) := by decide +kernel
theorem dX7_losesAll_48 : decode cX7_losesAll 48 = .ok (.iconst 1, 1) := by decide +kernel
theorem dX7_losesAll_49 : decode cX7_losesAll 49 = .ok (.if_icmp .ne 17, 3) := by decide +kernel
theorem dX7_losesAll_52 : decode cX7_losesAll 52 = .ok (.aload_n 0, 1) := by decide +kernel
theorem dX7_losesAll_53 : decode cX7_losesAll 53 = .ok (.aload_n 0, 1) := by decide +kernel
theorem dX7_losesAll_54 : decode cX7_losesAll 54 = .ok (.getfield 306, 3) := by decide +kernel
theorem dX7_losesAll_57 : decode cX7_losesAll 57 = .ok (.iconst 3, 1) := by decide +kernel
theorem dX7_losesAll_58 : decode cX7_losesAll 58 = .ok (.iconst 1, 1) := by decide +kernel
theorem dX7_losesAll_59 : decode cX7_losesAll 59 = .ok (.aload_n 0, 1) := by decide +kernel
theorem dX7_losesAll_60 : decode cX7_losesAll 60 = .ok (.getfield 321, 3) := by decide +kernel
theorem dX7_losesAll_63 : decode cX7_losesAll 63 = .ok (.invokevirtual 177, 3) := by decide +kernel
theorem dX7_losesAll_66 : decode cX7_losesAll 66 = .ok (.iinc 3 1, 3) := by decide +kernel
theorem dX7_losesAll_69 : decode cX7_losesAll 69 = .ok (.aload_n 0, 1) := by decide +kernel
theorem dX7_losesAll_70 : decode cX7_losesAll 70 = .ok (.invokevirtual 277, 3) := by decide +kernel
theorem dX7_losesAll_73 : decode cX7_losesAll 73 = .ok (.aload_n 0, 1) := by decide +kernel
theorem dX7_losesAll_74 : decode cX7_losesAll 74 = .ok (.iload_n 1, 1) := by decide +kernel
theorem dX7_losesAll_75 : decode cX7_losesAll 75 = .ok (.iload_n 2, 1) := by decide +kernel
theorem dX7_losesAll_76 : decode cX7_losesAll 76 = .ok (.invokevirtual 340, 3) := by decide +kernel
theorem dX7_losesAll_79 : decode cX7_losesAll 79 = .ok (.istore 4, 2) := by decide +kernel
theorem dX7_losesAll_81 : decode cX7_losesAll 81 = .ok (.goto (-71), 3) := by decide +kernel
theorem dX7_losesAll_84 : decode cX7_losesAll 84 = .ok (.iload_n 3, 1) := by decide +kernel
theorem dX7_losesAll_85 : decode cX7_losesAll 85 = .ok (.ireturn, 1) := by decide +kernel
theorem dX7_cut_0 : decode cX7_cut 0 = .ok (.iload_n 1, 1) := by decide +kernel
theorem dX7_cut_1 : decode cX7_cut 1 = .ok (.iload_n 2, 1) := by decide +kernel
theorem dX7_cut_2 : decode cX7_cut 2 = .ok (.invokestatic 337, 3) := by decide +kernel
theorem dX7_cut_5 : decode cX7_cut 5 = .ok (.ifCond .eq 8, 3) := by decide +kernel
theorem dX7_cut_8 : decode cX7_cut 8 = .ok (.iload_n 1, 1) := by decide +kernel
theorem dX7_cut_9 : decode cX7_cut 9 = .ok (.iload_n 2, 1) := by decide +kernel
theorem dX7_cut_10 : decode cX7_cut 10 = .ok (.if_icmp .ne 5, 3) := by decide +kernel
theorem dX7_cut_13 : decode cX7_cut 13 = .ok (.iconst (-1), 1) := by decide +kernel
theorem dX7_cut_14 : decode cX7_cut 14 = .ok (.ireturn, 1) := by decide +kernel
theorem dX7_cut_15 : decode cX7_cut 15 = .ok (.aload_n 0, 1) := by decide +kernel
theorem dX7_cut_16 : decode cX7_cut 16 = .ok (.getfield 116, 3) := by decide +kernel
theorem dX7_cut_19 : decode cX7_cut 19 = .ok (.iconst 4, 1) := by decide +kernel
theorem dX7_cut_20 : decode cX7_cut 20 = .ok (.iload_n 1, 1) := by decide +kernel
theorem dX7_cut_21 : decode cX7_cut 21 = .ok (.imul, 1) := by decide +kernel
theorem dX7_cut_22 : decode cX7_cut 22 = .ok (.iload_n 2, 1) := by decide +kernel
theorem dX7_cut_23 : decode cX7_cut 23 = .ok (.iadd, 1) := by decide +kernel
theorem dX7_cut_24 : decode cX7_cut 24 = .ok (.baload, 1) := by decide +kernel
theorem dX7_cut_25 : decode cX7_cut 25 = .ok (.ifCond .eq 6, 3) := by decide +kernel
theorem dX7_cut_28 : decode cX7_cut 28 = .ok (.bipush (-2), 2) := by decide +kernel
theorem dX7_cut_30 : decode cX7_cut 30 = .ok (.ireturn, 1) := by decide +kernel
theorem dX7_cut_31 : decode cX7_cut 31 = .ok (.aload_n 0, 1) := by decide +kernel
theorem dX7_cut_32 : decode cX7_cut 32 = .ok (.getfield 116, 3) := by decide +kernel
theorem dX7_cut_35 : decode cX7_cut 35 = .ok (.iconst 4, 1) := by decide +kernel
theorem dX7_cut_36 : decode cX7_cut 36 = .ok (.iload_n 1, 1) := by decide +kernel
theorem dX7_cut_37 : decode cX7_cut 37 = .ok (.imul, 1) := by decide +kernel
theorem dX7_cut_38 : decode cX7_cut 38 = .ok (.iload_n 2, 1) := by decide +kernel
theorem dX7_cut_39 : decode cX7_cut 39 = .ok (.iadd, 1) := by decide +kernel
theorem dX7_cut_40 : decode cX7_cut 40 = .ok (.iconst 1, 1) := by decide +kernel
theorem dX7_cut_41 : decode cX7_cut 41 = .ok (.bastore, 1) := by decide +kernel
theorem dX7_cut_42 : decode cX7_cut 42 = .ok (.aload_n 0, 1) := by decide +kernel
theorem dX7_cut_43 : decode cX7_cut 43 = .ok (.getfield 116, 3) := by decide +kernel
theorem dX7_cut_46 : decode cX7_cut 46 = .ok (.iconst 4, 1) := by decide +kernel
theorem dX7_cut_47 : decode cX7_cut 47 = .ok (.iload_n 2, 1) := by decide +kernel
theorem dX7_cut_48 : decode cX7_cut 48 = .ok (.imul, 1) := by decide +kernel
theorem dX7_cut_49 : decode cX7_cut 49 = .ok (.iload_n 1, 1) := by decide +kernel
theorem dX7_cut_50 : decode cX7_cut 50 = .ok (.iadd, 1) := by decide +kernel
theorem dX7_cut_51 : decode cX7_cut 51 = .ok (.iconst 1, 1) := by decide +kernel
theorem dX7_cut_52 : decode cX7_cut 52 = .ok (.bastore, 1) := by decide +kernel
theorem dX7_cut_53 : decode cX7_cut 53 = .ok (.iload_n 1, 1) := by decide +kernel
theorem dX7_cut_54 : decode cX7_cut 54 = .ok (.iload_n 2, 1) := by decide +kernel
theorem dX7_cut_55 : decode cX7_cut 55 = .ok (.if_icmp .ge 7, 3) := by decide +kernel
theorem dX7_cut_58 : decode cX7_cut 58 = .ok (.iload_n 1, 1) := by decide +kernel
theorem dX7_cut_59 : decode cX7_cut 59 = .ok (.goto 4, 3) := by decide +kernel
theorem dX7_cut_62 : decode cX7_cut 62 = .ok (.iload_n 2, 1) := by decide +kernel
theorem dX7_cut_63 : decode cX7_cut 63 = .ok (.istore_n 3, 1) := by decide +kernel
theorem dX7_cut_64 : decode cX7_cut 64 = .ok (.iload_n 1, 1) := by decide +kernel
theorem dX7_cut_65 : decode cX7_cut 65 = .ok (.iload_n 2, 1) := by decide +kernel
theorem dX7_cut_66 : decode cX7_cut 66 = .ok (.if_icmp .ge 7, 3) := by decide +kernel
theorem dX7_cut_69 : decode cX7_cut 69 = .ok (.iload_n 2, 1) := by decide +kernel
theorem dX7_cut_70 : decode cX7_cut 70 = .ok (.goto 4, 3) := by decide +kernel
theorem dX7_cut_73 : decode cX7_cut 73 = .ok (.iload_n 1, 1) := by decide +kernel
theorem dX7_cut_74 : decode cX7_cut 74 = .ok (.istore 4, 2) := by decide +kernel
theorem dX7_cut_76 : decode cX7_cut 76 = .ok (.aload_n 0, 1) := by decide +kernel
theorem dX7_cut_77 : decode cX7_cut 77 = .ok (.iload_n 3, 1) := by decide +kernel
theorem dX7_cut_78 : decode cX7_cut 78 = .ok (.iload 4, 2) := by decide +kernel
theorem dX7_cut_80 : decode cX7_cut 80 = .ok (.invokevirtual 346, 3) := by decide +kernel
theorem dX7_cut_83 : decode cX7_cut 83 = .ok (.istore 5, 2) := by decide +kernel
theorem dX7_cut_85 : decode cX7_cut 85 = .ok (.iload 5, 2) := by decide +kernel
theorem dX7_cut_87 : decode cX7_cut 87 = .ok (.aload_n 0, 1) := by decide +kernel
theorem dX7_cut_88 : decode cX7_cut 88 = .ok (.iload 4, 2) := by decide +kernel
theorem dX7_cut_90 : decode cX7_cut 90 = .ok (.iload_n 3, 1) := by decide +kernel
theorem dX7_cut_91 : decode cX7_cut 91 = .ok (.invokevirtual 346, 3) := by decide +kernel
theorem dX7_cut_94 : decode cX7_cut 94 = .ok (.iadd, 1) := by decide +kernel
theorem dX7_cut_95 : decode cX7_cut 95 = .ok (.ireturn, 1) := by decide +kernel
theorem dX7_again_0 : decode cX7_again 0 = .ok (.iload_n 1, 1) := by decide +kernel
theorem dX7_again_1 : decode cX7_again 1 = .ok (.iload_n 2, 1) := by decide +kernel
theorem dX7_again_2 : decode cX7_again 2 = .ok (.invokestatic 337, 3) := by decide +kernel
theorem dX7_again_5 : decode cX7_again 5 = .ok (.ifCond .eq 8, 3) := by decide +kernel
theorem dX7_again_8 : decode cX7_again 8 = .ok (.iload_n 1, 1) := by decide +kernel
theorem dX7_again_9 : decode cX7_again 9 = .ok (.iload_n 2, 1) := by decide +kernel
theorem dX7_again_10 : decode cX7_again 10 = .ok (.if_icmp .ne 5, 3) := by decide +kernel
theorem dX7_again_13 : decode cX7_again 13 = .ok (.iconst (-1), 1) := by decide +kernel
theorem dX7_again_14 : decode cX7_again 14 = .ok (.ireturn, 1) := by decide +kernel
theorem dX7_again_15 : decode cX7_again 15 = .ok (.aload_n 0, 1) := by decide +kernel
theorem dX7_again_16 : decode cX7_again 16 = .ok (.getfield 116, 3) := by decide +kernel
theorem dX7_again_19 : decode cX7_again 19 = .ok (.iconst 4, 1) := by decide +kernel
theorem dX7_again_20 : decode cX7_again 20 = .ok (.iload_n 1, 1) := by decide +kernel
theorem dX7_again_21 : decode cX7_again 21 = .ok (.imul, 1) := by decide +kernel
theorem dX7_again_22 : decode cX7_again 22 = .ok (.iload_n 2, 1) := by decide +kernel
theorem dX7_again_23 : decode cX7_again 23 = .ok (.iadd, 1) := by decide +kernel
theorem dX7_again_24 : decode cX7_again 24 = .ok (.baload, 1) := by decide +kernel
theorem dX7_again_25 : decode cX7_again 25 = .ok (.ifCond .ne 6, 3) := by decide +kernel
theorem dX7_again_28 : decode cX7_again 28 = .ok (.bipush (-2), 2) := by decide +kernel
theorem dX7_again_30 : decode cX7_again 30 = .ok (.ireturn, 1) := by decide +kernel
theorem dX7_again_31 : decode cX7_again 31 = .ok (.aload_n 0, 1) := by decide +kernel
theorem dX7_again_32 : decode cX7_again 32 = .ok (.getfield 116, 3) := by decide +kernel
theorem dX7_again_35 : decode cX7_again 35 = .ok (.iconst 4, 1) := by decide +kernel
theorem dX7_again_36 : decode cX7_again 36 = .ok (.iload_n 1, 1) := by decide +kernel
theorem dX7_again_37 : decode cX7_again 37 = .ok (.imul, 1) := by decide +kernel
theorem dX7_again_38 : decode cX7_again 38 = .ok (.iload_n 2, 1) := by decide +kernel
theorem dX7_again_39 : decode cX7_again 39 = .ok (.iadd, 1) := by decide +kernel
theorem dX7_again_40 : decode cX7_again 40 = .ok (.iconst 0, 1) := by decide +kernel
theorem dX7_again_41 : decode cX7_again 41 = .ok (.bastore, 1) := by decide +kernel
theorem dX7_again_42 : decode cX7_again 42 = .ok (.aload_n 0, 1) := by decide +kernel
theorem dX7_again_43 : decode cX7_again 43 = .ok (.getfield 116, 3) := by decide +kernel
theorem dX7_again_46 : decode cX7_again 46 = .ok (.iconst 4, 1) := by decide +kernel
theorem dX7_again_47 : decode cX7_again 47 = .ok (.iload_n 2, 1) := by decide +kernel
theorem dX7_again_48 : decode cX7_again 48 = .ok (.imul, 1) := by decide +kernel
theorem dX7_again_49 : decode cX7_again 49 = .ok (.iload_n 1, 1) := by decide +kernel
theorem dX7_again_50 : decode cX7_again 50 = .ok (.iadd, 1) := by decide +kernel
theorem dX7_again_51 : decode cX7_again 51 = .ok (.iconst 0, 1) := by decide +kernel
theorem dX7_again_52 : decode cX7_again 52 = .ok (.bastore, 1) := by decide +kernel
theorem dX7_again_53 : decode cX7_again 53 = .ok (.iconst 1, 1) := by decide +kernel
theorem dX7_again_54 : decode cX7_again 54 = .ok (.ireturn, 1) := by decide +kernel
theorem dX7_wire_0 : decode cX7_wire 0 = .ok (.iload_n 1, 1) := by decide +kernel
theorem dX7_wire_1 : decode cX7_wire 1 = .ok (.iload_n 2, 1) := by decide +kernel
theorem dX7_wire_2 : decode cX7_wire 2 = .ok (.invokestatic 337, 3) := by decide +kernel
theorem dX7_wire_5 : decode cX7_wire 5 = .ok (.ifCond .ne 5, 3) := by decide +kernel
theorem dX7_wire_8 : decode cX7_wire 8 = .ok (.iconst (-1), 1) := by decide +kernel
theorem dX7_wire_9 : decode cX7_wire 9 = .ok (.ireturn, 1) := by decide +kernel
theorem dX7_wire_10 : decode cX7_wire 10 = .ok (.iconst 0, 1) := by decide +kernel
theorem dX7_wire_11 : decode cX7_wire 11 = .ok (.istore_n 3, 1) := by decide +kernel
theorem dX7_wire_12 : decode cX7_wire 12 = .ok (.iconst 0, 1) := by decide +kernel
theorem dX7_wire_13 : decode cX7_wire 13 = .ok (.istore 4, 2) := by decide +kernel
theorem dX7_wire_15 : decode cX7_wire 15 = .ok (.iload 4, 2) := by decide +kernel
theorem dX7_wire_17 : decode cX7_wire 17 = .ok (.aload_n 0, 1) := by decide +kernel
theorem dX7_wire_18 : decode cX7_wire 18 = .ok (.getfield 147, 3) := by decide +kernel
theorem dX7_wire_21 : decode cX7_wire 21 = .ok (.if_icmp .ge 39, 3) := by decide +kernel
theorem dX7_wire_24 : decode cX7_wire 24 = .ok (.iload_n 3, 1) := by decide +kernel
theorem dX7_wire_25 : decode cX7_wire 25 = .ok (.aload_n 0, 1) := by decide +kernel
theorem dX7_wire_26 : decode cX7_wire 26 = .ok (.getfield 92, 3) := by decide +kernel
theorem dX7_wire_29 : decode cX7_wire 29 = .ok (.iload 4, 2) := by decide +kernel
theorem dX7_wire_31 : decode cX7_wire 31 = .ok (.iaload, 1) := by decide +kernel
theorem dX7_wire_32 : decode cX7_wire 32 = .ok (.iload_n 1, 1) := by decide +kernel
theorem dX7_wire_33 : decode cX7_wire 33 = .ok (.if_icmp .ne 18, 3) := by decide +kernel
theorem dX7_wire_36 : decode cX7_wire 36 = .ok (.aload_n 0, 1) := by decide +kernel
theorem dX7_wire_37 : decode cX7_wire 37 = .ok (.getfield 95, 3) := by decide +kernel
theorem dX7_wire_40 : decode cX7_wire 40 = .ok (.iload 4, 2) := by decide +kernel
theorem dX7_wire_42 : decode cX7_wire 42 = .ok (.iaload, 1) := by decide +kernel
theorem dX7_wire_43 : decode cX7_wire 43 = .ok (.iload_n 2, 1) := by decide +kernel
theorem dX7_wire_44 : decode cX7_wire 44 = .ok (.if_icmp .ne 7, 3) := by decide +kernel
theorem dX7_wire_47 : decode cX7_wire 47 = .ok (.iconst 1, 1) := by decide +kernel
theorem dX7_wire_48 : decode cX7_wire 48 = .ok (.goto 4, 3) := by decide +kernel
theorem dX7_wire_51 : decode cX7_wire 51 = .ok (.iconst 0, 1) := by decide +kernel
theorem dX7_wire_52 : decode cX7_wire 52 = .ok (.iadd, 1) := by decide +kernel
theorem dX7_wire_53 : decode cX7_wire 53 = .ok (.istore_n 3, 1) := by decide +kernel
theorem dX7_wire_54 : decode cX7_wire 54 = .ok (.iinc 4 1, 3) := by decide +kernel
theorem dX7_wire_57 : decode cX7_wire 57 = .ok (.goto (-42), 3) := by decide +kernel
theorem dX7_wire_60 : decode cX7_wire 60 = .ok (.iload_n 3, 1) := by decide +kernel
theorem dX7_wire_61 : decode cX7_wire 61 = .ok (.ireturn, 1) := by decide +kernel
theorem dX7_letterOf_0 : decode cX7_letterOf 0 = .ok (.iload_n 3, 1) := by decide +kernel
theorem dX7_letterOf_1 : decode cX7_letterOf 1 = .ok (.istore 4, 2) := by decide +kernel
theorem dX7_letterOf_3 : decode cX7_letterOf 3 = .ok (.iconst 0, 1) := by decide +kernel
theorem dX7_letterOf_4 : decode cX7_letterOf 4 = .ok (.istore 5, 2) := by decide +kernel
theorem dX7_letterOf_6 : decode cX7_letterOf 6 = .ok (.iload 5, 2) := by decide +kernel
theorem dX7_letterOf_8 : decode cX7_letterOf 8 = .ok (.aload_n 0, 1) := by decide +kernel
theorem dX7_letterOf_9 : decode cX7_letterOf 9 = .ok (.getfield 147, 3) := by decide +kernel
theorem dX7_letterOf_12 : decode cX7_letterOf 12 = .ok (.if_icmp .ge 46, 3) := by decide +kernel
theorem dX7_letterOf_15 : decode cX7_letterOf 15 = .ok (.iload_n 3, 1) := by decide +kernel
theorem dX7_letterOf_16 : decode cX7_letterOf 16 = .ok (.ifCond .lt 42, 3) := by decide +kernel
theorem dX7_letterOf_19 : decode cX7_letterOf 19 = .ok (.aload_n 0, 1) := by decide +kernel
theorem dX7_letterOf_20 : decode cX7_letterOf 20 = .ok (.getfield 92, 3) := by decide +kernel
theorem dX7_letterOf_23 : decode cX7_letterOf 23 = .ok (.iload 5, 2) := by decide +kernel
theorem dX7_letterOf_25 : decode cX7_letterOf 25 = .ok (.iaload, 1) := by decide +kernel
theorem dX7_letterOf_26 : decode cX7_letterOf 26 = .ok (.iload_n 1, 1) := by decide +kernel
theorem dX7_letterOf_27 : decode cX7_letterOf 27 = .ok (.if_icmp .ne 25, 3) := by decide +kernel
theorem dX7_letterOf_30 : decode cX7_letterOf 30 = .ok (.aload_n 0, 1) := by decide +kernel
theorem dX7_letterOf_31 : decode cX7_letterOf 31 = .ok (.getfield 95, 3) := by decide +kernel
theorem dX7_letterOf_34 : decode cX7_letterOf 34 = .ok (.iload 5, 2) := by decide +kernel
theorem dX7_letterOf_36 : decode cX7_letterOf 36 = .ok (.iaload, 1) := by decide +kernel
theorem dX7_letterOf_37 : decode cX7_letterOf 37 = .ok (.iload_n 2, 1) := by decide +kernel
theorem dX7_letterOf_38 : decode cX7_letterOf 38 = .ok (.if_icmp .ne 14, 3) := by decide +kernel
theorem dX7_letterOf_41 : decode cX7_letterOf 41 = .ok (.iload 4, 2) := by decide +kernel
theorem dX7_letterOf_43 : decode cX7_letterOf 43 = .ok (.ifCond .ne 6, 3) := by decide +kernel
theorem dX7_letterOf_46 : decode cX7_letterOf 46 = .ok (.iload 5, 2) := by decide +kernel
theorem dX7_letterOf_48 : decode cX7_letterOf 48 = .ok (.ireturn, 1) := by decide +kernel
theorem dX7_letterOf_49 : decode cX7_letterOf 49 = .ok (.iinc 4 (-1), 3) := by decide +kernel
theorem dX7_letterOf_52 : decode cX7_letterOf 52 = .ok (.iinc 5 1, 3) := by decide +kernel
theorem dX7_letterOf_55 : decode cX7_letterOf 55 = .ok (.goto (-49), 3) := by decide +kernel
theorem dX7_letterOf_58 : decode cX7_letterOf 58 = .ok (.iconst (-1), 1) := by decide +kernel
theorem dX7_letterOf_59 : decode cX7_letterOf 59 = .ok (.ireturn, 1) := by decide +kernel
theorem dX7_letter_0 : decode cX7_letter 0 = .ok (.iload_n 1, 1) := by decide +kernel
theorem dX7_letter_1 : decode cX7_letter 1 = .ok (.iload_n 2, 1) := by decide +kernel
theorem dX7_letter_2 : decode cX7_letter 2 = .ok (.invokestatic 337, 3) := by decide +kernel
theorem dX7_letter_5 : decode cX7_letter 5 = .ok (.ifCond .eq 13, 3) := by decide +kernel
theorem dX7_letter_8 : decode cX7_letter 8 = .ok (.iload 4, 2) := by decide +kernel
theorem dX7_letter_10 : decode cX7_letter 10 = .ok (.iconst 0, 1) := by decide +kernel
theorem dX7_letter_11 : decode cX7_letter 11 = .ok (.iconst 5, 1) := by decide +kernel
theorem dX7_letter_12 : decode cX7_letter 12 = .ok (.invokestatic 132, 3) := by decide +kernel
theorem dX7_letter_15 : decode cX7_letter 15 = .ok (.ifCond .ne 5, 3) := by decide +kernel
theorem dX7_letter_18 : decode cX7_letter 18 = .ok (.iconst (-1), 1) := by decide +kernel
theorem dX7_letter_19 : decode cX7_letter 19 = .ok (.ireturn, 1) := by decide +kernel
theorem dX7_letter_20 : decode cX7_letter 20 = .ok (.aload_n 0, 1) := by decide +kernel
theorem dX7_letter_21 : decode cX7_letter 21 = .ok (.iload_n 1, 1) := by decide +kernel
theorem dX7_letter_22 : decode cX7_letter 22 = .ok (.iload_n 2, 1) := by decide +kernel
theorem dX7_letter_23 : decode cX7_letter 23 = .ok (.iload_n 3, 1) := by decide +kernel
theorem dX7_letter_24 : decode cX7_letter 24 = .ok (.invokevirtual 349, 3) := by decide +kernel
theorem dX7_letter_27 : decode cX7_letter 27 = .ok (.istore 5, 2) := by decide +kernel
theorem dX7_letter_29 : decode cX7_letter 29 = .ok (.iload 5, 2) := by decide +kernel
theorem dX7_letter_31 : decode cX7_letter 31 = .ok (.ifCond .ge 6, 3) := by decide +kernel
theorem dX7_letter_34 : decode cX7_letter 34 = .ok (.bipush (-9), 2) := by decide +kernel
theorem dX7_letter_36 : decode cX7_letter 36 = .ok (.ireturn, 1) := by decide +kernel
theorem dX7_letter_37 : decode cX7_letter 37 = .ok (.aload_n 0, 1) := by decide +kernel
theorem dX7_letter_38 : decode cX7_letter 38 = .ok (.getfield 98, 3) := by decide +kernel
theorem dX7_letter_41 : decode cX7_letter 41 = .ok (.iload 5, 2) := by decide +kernel
theorem dX7_letter_43 : decode cX7_letter 43 = .ok (.iaload, 1) := by decide +kernel
theorem dX7_letter_44 : decode cX7_letter 44 = .ok (.istore 6, 2) := by decide +kernel
theorem dX7_letter_46 : decode cX7_letter 46 = .ok (.iload 4, 2) := by decide +kernel
theorem dX7_letter_48 : decode cX7_letter 48 = .ok (.tableswitch 147 0 4 #[36, 44, 47, 90, 139], 36) := by decide +kernel
theorem dX7_letter_84 : decode cX7_letter 84 = .ok (.aload_n 0, 1) := by decide +kernel
theorem dX7_letter_85 : decode cX7_letter 85 = .ok (.getfield 89, 3) := by decide +kernel
theorem dX7_letter_88 : decode cX7_letter 88 = .ok (.iload 5, 2) := by decide +kernel
theorem dX7_letter_90 : decode cX7_letter 90 = .ok (.iaload, 1) := by decide +kernel
theorem dX7_letter_91 : decode cX7_letter 91 = .ok (.ireturn, 1) := by decide +kernel
theorem dX7_letter_92 : decode cX7_letter 92 = .ok (.iload 6, 2) := by decide +kernel
theorem dX7_letter_94 : decode cX7_letter 94 = .ok (.ireturn, 1) := by decide +kernel
theorem dX7_letter_95 : decode cX7_letter 95 = .ok (.aload_n 0, 1) := by decide +kernel
theorem dX7_letter_96 : decode cX7_letter 96 = .ok (.getfield 89, 3) := by decide +kernel
theorem dX7_letter_99 : decode cX7_letter 99 = .ok (.iload 5, 2) := by decide +kernel
theorem dX7_letter_101 : decode cX7_letter 101 = .ok (.iaload, 1) := by decide +kernel
theorem dX7_letter_102 : decode cX7_letter 102 = .ok (.ifCond .ne 13, 3) := by decide +kernel
theorem dX7_letter_105 : decode cX7_letter 105 = .ok (.aload_n 0, 1) := by decide +kernel
theorem dX7_letter_106 : decode cX7_letter 106 = .ok (.getfield 59, 3) := by decide +kernel
theorem dX7_letter_109 : decode cX7_letter 109 = .ok (.iload 6, 2) := by decide +kernel
theorem dX7_letter_111 : decode cX7_letter 111 = .ok (.iaload, 1) := by decide +kernel
theorem dX7_letter_112 : decode cX7_letter 112 = .ok (.goto 25, 3) := by decide +kernel
theorem dX7_letter_115 : decode cX7_letter 115 = .ok (.aload_n 0, 1) := by decide +kernel
theorem dX7_letter_116 : decode cX7_letter 116 = .ok (.getfield 89, 3) := by decide +kernel
theorem dX7_letter_119 : decode cX7_letter 119 = .ok (.iload 5, 2) := by decide +kernel
theorem dX7_letter_121 : decode cX7_letter 121 = .ok (.iaload, 1) := by decide +kernel
theorem dX7_letter_122 : decode cX7_letter 122 = .ok (.iconst 1, 1) := by decide +kernel
theorem dX7_letter_123 : decode cX7_letter 123 = .ok (.if_icmp .ne 13, 3) := by decide +kernel
theorem dX7_letter_126 : decode cX7_letter 126 = .ok (.aload_n 0, 1) := by decide +kernel
theorem dX7_letter_127 : decode cX7_letter 127 = .ok (.getfield 107, 3) := by decide +kernel
theorem dX7_letter_130 : decode cX7_letter 130 = .ok (.iload 5, 2) := by decide +kernel
theorem dX7_letter_132 : decode cX7_letter 132 = .ok (.iaload, 1) := by decide +kernel
theorem dX7_letter_133 : decode cX7_letter 133 = .ok (.goto 4, 3) := by decide +kernel
theorem dX7_letter_136 : decode cX7_letter 136 = .ok (.iconst 2, 1) := by decide +kernel
theorem dX7_letter_137 : decode cX7_letter 137 = .ok (.ireturn, 1) := by decide +kernel
theorem dX7_letter_138 : decode cX7_letter 138 = .ok (.aload_n 0, 1) := by decide +kernel
theorem dX7_letter_139 : decode cX7_letter 139 = .ok (.getfield 89, 3) := by decide +kernel
theorem dX7_letter_142 : decode cX7_letter 142 = .ok (.iload 5, 2) := by decide +kernel
theorem dX7_letter_144 : decode cX7_letter 144 = .ok (.iaload, 1) := by decide +kernel
theorem dX7_letter_145 : decode cX7_letter 145 = .ok (.ifCond .ne 13, 3) := by decide +kernel
theorem dX7_letter_148 : decode cX7_letter 148 = .ok (.aload_n 0, 1) := by decide +kernel
theorem dX7_letter_149 : decode cX7_letter 149 = .ok (.getfield 62, 3) := by decide +kernel
theorem dX7_letter_152 : decode cX7_letter 152 = .ok (.iload 6, 2) := by decide +kernel
theorem dX7_letter_154 : decode cX7_letter 154 = .ok (.iaload, 1) := by decide +kernel
theorem dX7_letter_155 : decode cX7_letter 155 = .ok (.goto 31, 3) := by decide +kernel
theorem dX7_letter_158 : decode cX7_letter 158 = .ok (.aload_n 0, 1) := by decide +kernel
theorem dX7_letter_159 : decode cX7_letter 159 = .ok (.getfield 89, 3) := by decide +kernel
theorem dX7_letter_162 : decode cX7_letter 162 = .ok (.iload 5, 2) := by decide +kernel
theorem dX7_letter_164 : decode cX7_letter 164 = .ok (.iaload, 1) := by decide +kernel
theorem dX7_letter_165 : decode cX7_letter 165 = .ok (.iconst 1, 1) := by decide +kernel
theorem dX7_letter_166 : decode cX7_letter 166 = .ok (.if_icmp .ne 13, 3) := by decide +kernel
theorem dX7_letter_169 : decode cX7_letter 169 = .ok (.aload_n 0, 1) := by decide +kernel
theorem dX7_letter_170 : decode cX7_letter 170 = .ok (.getfield 110, 3) := by decide +kernel
theorem dX7_letter_173 : decode cX7_letter 173 = .ok (.iload 5, 2) := by decide +kernel
theorem dX7_letter_175 : decode cX7_letter 175 = .ok (.iaload, 1) := by decide +kernel
theorem dX7_letter_176 : decode cX7_letter 176 = .ok (.goto 10, 3) := by decide +kernel
theorem dX7_letter_179 : decode cX7_letter 179 = .ok (.aload_n 0, 1) := by decide +kernel
theorem dX7_letter_180 : decode cX7_letter 180 = .ok (.getfield 107, 3) := by decide +kernel
theorem dX7_letter_183 : decode cX7_letter 183 = .ok (.iload 5, 2) := by decide +kernel
theorem dX7_letter_185 : decode cX7_letter 185 = .ok (.iaload, 1) := by decide +kernel
theorem dX7_letter_186 : decode cX7_letter 186 = .ok (.ireturn, 1) := by decide +kernel
theorem dX7_letter_187 : decode cX7_letter 187 = .ok (.aload_n 0, 1) := by decide +kernel
theorem dX7_letter_188 : decode cX7_letter 188 = .ok (.getfield 101, 3) := by decide +kernel
theorem dX7_letter_191 : decode cX7_letter 191 = .ok (.iload 5, 2) := by decide +kernel
theorem dX7_letter_193 : decode cX7_letter 193 = .ok (.iaload, 1) := by decide +kernel
theorem dX7_letter_194 : decode cX7_letter 194 = .ok (.ireturn, 1) := by decide +kernel
theorem dX7_letter_195 : decode cX7_letter 195 = .ok (.aload_n 0, 1) := by decide +kernel
theorem dX7_letter_196 : decode cX7_letter 196 = .ok (.getfield 104, 3) := by decide +kernel
theorem dX7_letter_199 : decode cX7_letter 199 = .ok (.iload 5, 2) := by decide +kernel
theorem dX7_letter_201 : decode cX7_letter 201 = .ok (.iaload, 1) := by decide +kernel
theorem dX7_letter_202 : decode cX7_letter 202 = .ok (.ireturn, 1) := by decide +kernel
theorem dX7_purses_0 : decode cX7_purses 0 = .ok (.lconst 0, 1) := by decide +kernel
theorem dX7_purses_1 : decode cX7_purses 1 = .ok (.lstore_n 1, 1) := by decide +kernel
theorem dX7_purses_2 : decode cX7_purses 2 = .ok (.iconst 0, 1) := by decide +kernel
theorem dX7_purses_3 : decode cX7_purses 3 = .ok (.istore_n 3, 1) := by decide +kernel
theorem dX7_purses_4 : decode cX7_purses 4 = .ok (.iload_n 3, 1) := by decide +kernel
theorem dX7_purses_5 : decode cX7_purses 5 = .ok (.aload_n 0, 1) := by decide +kernel
theorem dX7_purses_6 : decode cX7_purses 6 = .ok (.getfield 128, 3) := by decide +kernel
theorem dX7_purses_9 : decode cX7_purses 9 = .ok (.if_icmp .ge 33, 3) := by decide +kernel
theorem dX7_purses_12 : decode cX7_purses 12 = .ok (.lload_n 1, 1) := by decide +kernel
theorem dX7_purses_13 : decode cX7_purses 13 = .ok (.aload_n 0, 1) := by decide +kernel
theorem dX7_purses_14 : decode cX7_purses 14 = .ok (.getfield 13, 3) := by decide +kernel
theorem dX7_purses_17 : decode cX7_purses 17 = .ok (.iload_n 3, 1) := by decide +kernel
theorem dX7_purses_18 : decode cX7_purses 18 = .ok (.iaload, 1) := by decide +kernel
theorem dX7_purses_19 : decode cX7_purses 19 = .ok (.iconst 1, 1) := by decide +kernel
theorem dX7_purses_20 : decode cX7_purses 20 = .ok (.if_icmp .ne 13, 3) := by decide +kernel
theorem dX7_purses_23 : decode cX7_purses 23 = .ok (.aload_n 0, 1) := by decide +kernel
theorem dX7_purses_24 : decode cX7_purses 24 = .ok (.getfield 16, 3) := by decide +kernel
theorem dX7_purses_27 : decode cX7_purses 27 = .ok (.iload_n 3, 1) := by decide +kernel
theorem dX7_purses_28 : decode cX7_purses 28 = .ok (.iaload, 1) := by decide +kernel
theorem dX7_purses_29 : decode cX7_purses 29 = .ok (.i2l, 1) := by decide +kernel
theorem dX7_purses_30 : decode cX7_purses 30 = .ok (.goto 4, 3) := by decide +kernel
theorem dX7_purses_33 : decode cX7_purses 33 = .ok (.lconst 0, 1) := by decide +kernel
theorem dX7_purses_34 : decode cX7_purses 34 = .ok (.ladd, 1) := by decide +kernel
theorem dX7_purses_35 : decode cX7_purses 35 = .ok (.lstore_n 1, 1) := by decide +kernel
theorem dX7_purses_36 : decode cX7_purses 36 = .ok (.iinc 3 1, 3) := by decide +kernel
theorem dX7_purses_39 : decode cX7_purses 39 = .ok (.goto (-35), 3) := by decide +kernel
theorem dX7_purses_42 : decode cX7_purses 42 = .ok (.iconst 0, 1) := by decide +kernel
theorem dX7_purses_43 : decode cX7_purses 43 = .ok (.istore_n 3, 1) := by decide +kernel
theorem dX7_purses_44 : decode cX7_purses 44 = .ok (.iload_n 3, 1) := by decide +kernel
theorem dX7_purses_45 : decode cX7_purses 45 = .ok (.aload_n 0, 1) := by decide +kernel
theorem dX7_purses_46 : decode cX7_purses 46 = .ok (.getfield 147, 3) := by decide +kernel
theorem dX7_purses_49 : decode cX7_purses 49 = .ok (.if_icmp .ge 51, 3) := by decide +kernel
theorem dX7_purses_52 : decode cX7_purses 52 = .ok (.lload_n 1, 1) := by decide +kernel
theorem dX7_purses_53 : decode cX7_purses 53 = .ok (.aload_n 0, 1) := by decide +kernel
theorem dX7_purses_54 : decode cX7_purses 54 = .ok (.getfield 89, 3) := by decide +kernel
theorem dX7_purses_57 : decode cX7_purses 57 = .ok (.iload_n 3, 1) := by decide +kernel
theorem dX7_purses_58 : decode cX7_purses 58 = .ok (.iaload, 1) := by decide +kernel
theorem dX7_purses_59 : decode cX7_purses 59 = .ok (.ifCond .ne 32, 3) := by decide +kernel
theorem dX7_purses_62 : decode cX7_purses 62 = .ok (.aload_n 0, 1) := by decide +kernel
theorem dX7_purses_63 : decode cX7_purses 63 = .ok (.getfield 68, 3) := by decide +kernel
theorem dX7_purses_66 : decode cX7_purses 66 = .ok (.aload_n 0, 1) := by decide +kernel
theorem dX7_purses_67 : decode cX7_purses 67 = .ok (.getfield 98, 3) := by decide +kernel
theorem dX7_purses_70 : decode cX7_purses 70 = .ok (.iload_n 3, 1) := by decide +kernel
theorem dX7_purses_71 : decode cX7_purses 71 = .ok (.iaload, 1) := by decide +kernel
theorem dX7_purses_72 : decode cX7_purses 72 = .ok (.iaload, 1) := by decide +kernel
theorem dX7_purses_73 : decode cX7_purses 73 = .ok (.ifCond .lt 18, 3) := by decide +kernel
theorem dX7_purses_76 : decode cX7_purses 76 = .ok (.aload_n 0, 1) := by decide +kernel
theorem dX7_purses_77 : decode cX7_purses 77 = .ok (.getfield 62, 3) := by decide +kernel
theorem dX7_purses_80 : decode cX7_purses 80 = .ok (.aload_n 0, 1) := by decide +kernel
theorem dX7_purses_81 : decode cX7_purses 81 = .ok (.getfield 98, 3) := by decide +kernel
theorem dX7_purses_84 : decode cX7_purses 84 = .ok (.iload_n 3, 1) := by decide +kernel
theorem dX7_purses_85 : decode cX7_purses 85 = .ok (.iaload, 1) := by decide +kernel
theorem dX7_purses_86 : decode cX7_purses 86 = .ok (.iaload, 1) := by decide +kernel
theorem dX7_purses_87 : decode cX7_purses 87 = .ok (.i2l, 1) := by decide +kernel
theorem dX7_purses_88 : decode cX7_purses 88 = .ok (.goto 4, 3) := by decide +kernel
theorem dX7_purses_91 : decode cX7_purses 91 = .ok (.lconst 0, 1) := by decide +kernel
theorem dX7_purses_92 : decode cX7_purses 92 = .ok (.ladd, 1) := by decide +kernel
theorem dX7_purses_93 : decode cX7_purses 93 = .ok (.lstore_n 1, 1) := by decide +kernel
theorem dX7_purses_94 : decode cX7_purses 94 = .ok (.iinc 3 1, 3) := by decide +kernel
theorem dX7_purses_97 : decode cX7_purses 97 = .ok (.goto (-53), 3) := by decide +kernel
theorem dX7_purses_100 : decode cX7_purses 100 = .ok (.lload_n 1, 1) := by decide +kernel
theorem dX7_purses_101 : decode cX7_purses 101 = .ok (.lreturn, 1) := by decide +kernel
theorem dX7_countWhere_0 : decode cX7_countWhere 0 = .ok (.iconst 0, 1) := by decide +kernel
theorem dX7_countWhere_1 : decode cX7_countWhere 1 = .ok (.istore_n 2, 1) := by decide +kernel
theorem dX7_countWhere_2 : decode cX7_countWhere 2 = .ok (.iconst 0, 1) := by decide +kernel
theorem dX7_countWhere_3 : decode cX7_countWhere 3 = .ok (.istore_n 3, 1) := by decide +kernel
theorem dX7_countWhere_4 : decode cX7_countWhere 4 = .ok (.iload_n 3, 1) := by decide +kernel
theorem dX7_countWhere_5 : decode cX7_countWhere 5 = .ok (.aload_n 0, 1) := by decide +kernel
theorem dX7_countWhere_6 : decode cX7_countWhere 6 = .ok (.getfield 136, 3) := by decide +kernel
theorem dX7_countWhere_9 : decode cX7_countWhere 9 = .ok (.if_icmp .ge 27, 3) := by decide +kernel
theorem dX7_countWhere_12 : decode cX7_countWhere 12 = .ok (.iload_n 2, 1) := by decide +kernel
theorem dX7_countWhere_13 : decode cX7_countWhere 13 = .ok (.aload_n 0, 1) := by decide +kernel
theorem dX7_countWhere_14 : decode cX7_countWhere 14 = .ok (.getfield 56, 3) := by decide +kernel
theorem dX7_countWhere_17 : decode cX7_countWhere 17 = .ok (.iload_n 3, 1) := by decide +kernel
theorem dX7_countWhere_18 : decode cX7_countWhere 18 = .ok (.iaload, 1) := by decide +kernel
theorem dX7_countWhere_19 : decode cX7_countWhere 19 = .ok (.iload_n 1, 1) := by decide +kernel
theorem dX7_countWhere_20 : decode cX7_countWhere 20 = .ok (.if_icmp .ne 7, 3) := by decide +kernel
theorem dX7_countWhere_23 : decode cX7_countWhere 23 = .ok (.iconst 1, 1) := by decide +kernel
theorem dX7_countWhere_24 : decode cX7_countWhere 24 = .ok (.goto 4, 3) := by decide +kernel
theorem dX7_countWhere_27 : decode cX7_countWhere 27 = .ok (.iconst 0, 1) := by decide +kernel
theorem dX7_countWhere_28 : decode cX7_countWhere 28 = .ok (.iadd, 1) := by decide +kernel
theorem dX7_countWhere_29 : decode cX7_countWhere 29 = .ok (.istore_n 2, 1) := by decide +kernel
theorem dX7_countWhere_30 : decode cX7_countWhere 30 = .ok (.iinc 3 1, 3) := by decide +kernel
theorem dX7_countWhere_33 : decode cX7_countWhere 33 = .ok (.goto (-29), 3) := by decide +kernel
theorem dX7_countWhere_36 : decode cX7_countWhere 36 = .ok (.iload_n 2, 1) := by decide +kernel
theorem dX7_countWhere_37 : decode cX7_countWhere 37 = .ok (.ireturn, 1) := by decide +kernel
theorem dX7_count_0 : decode cX7_count 0 = .ok (.iconst 0, 1) := by decide +kernel
theorem dX7_count_1 : decode cX7_count 1 = .ok (.istore_n 2, 1) := by decide +kernel
theorem dX7_count_2 : decode cX7_count 2 = .ok (.iload_n 1, 1) := by decide +kernel
theorem dX7_count_3 : decode cX7_count 3 = .ok (.tableswitch 163 0 8 #[49, 54, 59, 94, 99, 104, 146, 152, 158], 49) := by decide +kernel
theorem dX7_count_52 : decode cX7_count 52 = .ok (.aload_n 0, 1) := by decide +kernel
theorem dX7_count_53 : decode cX7_count 53 = .ok (.getfield 128, 3) := by decide +kernel
theorem dX7_count_56 : decode cX7_count 56 = .ok (.ireturn, 1) := by decide +kernel
theorem dX7_count_57 : decode cX7_count 57 = .ok (.aload_n 0, 1) := by decide +kernel
theorem dX7_count_58 : decode cX7_count 58 = .ok (.getfield 136, 3) := by decide +kernel
theorem dX7_count_61 : decode cX7_count 61 = .ok (.ireturn, 1) := by decide +kernel
theorem dX7_count_62 : decode cX7_count 62 = .ok (.iconst 0, 1) := by decide +kernel
theorem dX7_count_63 : decode cX7_count 63 = .ok (.istore_n 3, 1) := by decide +kernel
theorem dX7_count_64 : decode cX7_count 64 = .ok (.iload_n 3, 1) := by decide +kernel
theorem dX7_count_65 : decode cX7_count 65 = .ok (.aload_n 0, 1) := by decide +kernel
theorem dX7_count_66 : decode cX7_count 66 = .ok (.getfield 136, 3) := by decide +kernel
theorem dX7_count_69 : decode cX7_count 69 = .ok (.if_icmp .ge 26, 3) := by decide +kernel
theorem dX7_count_72 : decode cX7_count 72 = .ok (.iload_n 2, 1) := by decide +kernel
theorem dX7_count_73 : decode cX7_count 73 = .ok (.aload_n 0, 1) := by decide +kernel
theorem dX7_count_74 : decode cX7_count 74 = .ok (.getfield 41, 3) := by decide +kernel
theorem dX7_count_77 : decode cX7_count 77 = .ok (.iload_n 3, 1) := by decide +kernel
theorem dX7_count_78 : decode cX7_count 78 = .ok (.iaload, 1) := by decide +kernel
theorem dX7_count_79 : decode cX7_count 79 = .ok (.ifCond .ne 7, 3) := by decide +kernel
theorem dX7_count_82 : decode cX7_count 82 = .ok (.iconst 1, 1) := by decide +kernel
theorem dX7_count_83 : decode cX7_count 83 = .ok (.goto 4, 3) := by decide +kernel
theorem dX7_count_86 : decode cX7_count 86 = .ok (.iconst 0, 1) := by decide +kernel
theorem dX7_count_87 : decode cX7_count 87 = .ok (.iadd, 1) := by decide +kernel
theorem dX7_count_88 : decode cX7_count 88 = .ok (.istore_n 2, 1) := by decide +kernel
theorem dX7_count_89 : decode cX7_count 89 = .ok (.iinc 3 1, 3) := by decide +kernel
theorem dX7_count_92 : decode cX7_count 92 = .ok (.goto (-28), 3) := by decide +kernel
theorem dX7_count_95 : decode cX7_count 95 = .ok (.iload_n 2, 1) := by decide +kernel
theorem dX7_count_96 : decode cX7_count 96 = .ok (.ireturn, 1) := by decide +kernel
theorem dX7_count_97 : decode cX7_count 97 = .ok (.aload_n 0, 1) := by decide +kernel
theorem dX7_count_98 : decode cX7_count 98 = .ok (.getfield 147, 3) := by decide +kernel
theorem dX7_count_101 : decode cX7_count 101 = .ok (.ireturn, 1) := by decide +kernel
theorem dX7_count_102 : decode cX7_count 102 = .ok (.aload_n 0, 1) := by decide +kernel
theorem dX7_count_103 : decode cX7_count 103 = .ok (.getfield 158, 3) := by decide +kernel
theorem dX7_count_106 : decode cX7_count 106 = .ok (.ireturn, 1) := by decide +kernel
theorem dX7_count_107 : decode cX7_count 107 = .ok (.iconst 0, 1) := by decide +kernel
theorem dX7_count_108 : decode cX7_count 108 = .ok (.istore_n 3, 1) := by decide +kernel
theorem dX7_count_109 : decode cX7_count 109 = .ok (.iload_n 3, 1) := by decide +kernel
theorem dX7_count_110 : decode cX7_count 110 = .ok (.bipush 16, 2) := by decide +kernel
theorem dX7_count_112 : decode cX7_count 112 = .ok (.if_icmp .ge 35, 3) := by decide +kernel
theorem dX7_count_115 : decode cX7_count 115 = .ok (.iload_n 2, 1) := by decide +kernel
theorem dX7_count_116 : decode cX7_count 116 = .ok (.aload_n 0, 1) := by decide +kernel
theorem dX7_count_117 : decode cX7_count 117 = .ok (.getfield 116, 3) := by decide +kernel
theorem dX7_count_120 : decode cX7_count 120 = .ok (.iload_n 3, 1) := by decide +kernel
theorem dX7_count_121 : decode cX7_count 121 = .ok (.baload, 1) := by decide +kernel
theorem dX7_count_122 : decode cX7_count 122 = .ok (.ifCond .eq 16, 3) := by decide +kernel
theorem dX7_count_125 : decode cX7_count 125 = .ok (.iload_n 3, 1) := by decide +kernel
theorem dX7_count_126 : decode cX7_count 126 = .ok (.iconst 4, 1) := by decide +kernel
theorem dX7_count_127 : decode cX7_count 127 = .ok (.idiv, 1) := by decide +kernel
theorem dX7_count_128 : decode cX7_count 128 = .ok (.iload_n 3, 1) := by decide +kernel
theorem dX7_count_129 : decode cX7_count 129 = .ok (.iconst 4, 1) := by decide +kernel
theorem dX7_count_130 : decode cX7_count 130 = .ok (.irem, 1) := by decide +kernel
theorem dX7_count_131 : decode cX7_count 131 = .ok (.if_icmp .ge 7, 3) := by decide +kernel
theorem dX7_count_134 : decode cX7_count 134 = .ok (.iconst 1, 1) := by decide +kernel
theorem dX7_count_135 : decode cX7_count 135 = .ok (.goto 4, 3) := by decide +kernel
theorem dX7_count_138 : decode cX7_count 138 = .ok (.iconst 0, 1) := by decide +kernel
theorem dX7_count_139 : decode cX7_count 139 = .ok (.iadd, 1) := by decide +kernel
theorem dX7_count_140 : decode cX7_count 140 = .ok (.istore_n 2, 1) := by decide +kernel
theorem dX7_count_141 : decode cX7_count 141 = .ok (.iinc 3 1, 3) := by decide +kernel
theorem dX7_count_144 : decode cX7_count 144 = .ok (.goto (-35), 3) := by decide +kernel
theorem dX7_count_147 : decode cX7_count 147 = .ok (.iload_n 2, 1) := by decide +kernel
theorem dX7_count_148 : decode cX7_count 148 = .ok (.ireturn, 1) := by decide +kernel
theorem dX7_count_149 : decode cX7_count 149 = .ok (.aload_n 0, 1) := by decide +kernel
theorem dX7_count_150 : decode cX7_count 150 = .ok (.iconst 1, 1) := by decide +kernel
theorem dX7_count_151 : decode cX7_count 151 = .ok (.invokevirtual 353, 3) := by decide +kernel
theorem dX7_count_154 : decode cX7_count 154 = .ok (.ireturn, 1) := by decide +kernel
theorem dX7_count_155 : decode cX7_count 155 = .ok (.aload_n 0, 1) := by decide +kernel
theorem dX7_count_156 : decode cX7_count 156 = .ok (.iconst 2, 1) := by decide +kernel
theorem dX7_count_157 : decode cX7_count 157 = .ok (.invokevirtual 353, 3) := by decide +kernel
theorem dX7_count_160 : decode cX7_count 160 = .ok (.ireturn, 1) := by decide +kernel
theorem dX7_count_161 : decode cX7_count 161 = .ok (.aload_n 0, 1) := by decide +kernel
theorem dX7_count_162 : decode cX7_count 162 = .ok (.getfield 262, 3) := by decide +kernel
theorem dX7_count_165 : decode cX7_count 165 = .ok (.ireturn, 1) := by decide +kernel
theorem dX7_count_166 : decode cX7_count 166 = .ok (.iconst (-1), 1) := by decide +kernel
theorem dX7_count_167 : decode cX7_count 167 = .ok (.ireturn, 1) := by decide +kernel
theorem dX7_trace_0 : decode cX7_trace 0 = .ok (.aload_n 0, 1) := by decide +kernel
theorem dX7_trace_1 : decode cX7_trace 1 = .ok (.getfield 215, 3) := by decide +kernel
theorem dX7_trace_4 : decode cX7_trace 4 = .ok (.lreturn, 1) := by decide +kernel
