theorem dX11_laysNet_23 : decode cX11_laysNet 23 = .ok (.imul, 1) := by decide +kernel
theorem dX11_laysNet_24 : decode cX11_laysNet 24 = .ok (.aload_n 0, 1) := by decide +kernel
theorem dX11_laysNet_25 : decode cX11_laysNet 25 = .ok (.invokevirtual 148, 3) := by decide +kernel
theorem dX11_laysNet_28 : decode cX11_laysNet 28 = .ok (.iadd, 1) := by decide +kernel
theorem dX11_laysNet_29 : decode cX11_laysNet 29 = .ok (.putfield 251, 3) := by decide +kernel
theorem dX11_laysNet_32 : decode cX11_laysNet 32 = .ok (.aload_n 0, 1) := by decide +kernel
theorem dX11_laysNet_33 : decode cX11_laysNet 33 = .ok (.aload_n 0, 1) := by decide +kernel
theorem dX11_laysNet_34 : decode cX11_laysNet 34 = .ok (.getfield 13, 3) := by decide +kernel
theorem dX11_laysNet_37 : decode cX11_laysNet 37 = .ok (.iconst 1, 1) := by decide +kernel
theorem dX11_laysNet_38 : decode cX11_laysNet 38 = .ok (.iaload, 1) := by decide +kernel
theorem dX11_laysNet_39 : decode cX11_laysNet 39 = .ok (.iconst 1, 1) := by decide +kernel
theorem dX11_laysNet_40 : decode cX11_laysNet 40 = .ok (.iadd, 1) := by decide +kernel
theorem dX11_laysNet_41 : decode cX11_laysNet 41 = .ok (.aload_n 0, 1) := by decide +kernel
theorem dX11_laysNet_42 : decode cX11_laysNet 42 = .ok (.getfield 151, 3) := by decide +kernel
theorem dX11_laysNet_45 : decode cX11_laysNet 45 = .ok (.imul, 1) := by decide +kernel
theorem dX11_laysNet_46 : decode cX11_laysNet 46 = .ok (.putfield 254, 3) := by decide +kernel
theorem dX11_laysNet_49 : decode cX11_laysNet 49 = .ok (.iconst 0, 1) := by decide +kernel
theorem dX11_laysNet_50 : decode cX11_laysNet 50 = .ok (.istore_n 3, 1) := by decide +kernel
theorem dX11_laysNet_51 : decode cX11_laysNet 51 = .ok (.iload_n 3, 1) := by decide +kernel
theorem dX11_laysNet_52 : decode cX11_laysNet 52 = .ok (.aload_n 0, 1) := by decide +kernel
theorem dX11_laysNet_53 : decode cX11_laysNet 53 = .ok (.getfield 251, 3) := by decide +kernel
theorem dX11_laysNet_56 : decode cX11_laysNet 56 = .ok (.if_icmp .ge 205, 3) := by decide +kernel
theorem dX11_laysNet_59 : decode cX11_laysNet 59 = .ok (.iload_n 3, 1) := by decide +kernel
theorem dX11_laysNet_60 : decode cX11_laysNet 60 = .ok (.iload_n 2, 1) := by decide +kernel
theorem dX11_laysNet_61 : decode cX11_laysNet 61 = .ok (.idiv, 1) := by decide +kernel
theorem dX11_laysNet_62 : decode cX11_laysNet 62 = .ok (.istore 4, 2) := by decide +kernel
theorem dX11_laysNet_64 : decode cX11_laysNet 64 = .ok (.iload_n 3, 1) := by decide +kernel
theorem dX11_laysNet_65 : decode cX11_laysNet 65 = .ok (.iload_n 2, 1) := by decide +kernel
theorem dX11_laysNet_66 : decode cX11_laysNet 66 = .ok (.irem, 1) := by decide +kernel
theorem dX11_laysNet_67 : decode cX11_laysNet 67 = .ok (.istore 5, 2) := by decide +kernel
theorem dX11_laysNet_69 : decode cX11_laysNet 69 = .ok (.iload 5, 2) := by decide +kernel
theorem dX11_laysNet_71 : decode cX11_laysNet 71 = .ok (.aload_n 0, 1) := by decide +kernel
theorem dX11_laysNet_72 : decode cX11_laysNet 72 = .ok (.invokevirtual 148, 3) := by decide +kernel
theorem dX11_laysNet_75 : decode cX11_laysNet 75 = .ok (.if_icmp .lt 70, 3) := by decide +kernel
theorem dX11_laysNet_78 : decode cX11_laysNet 78 = .ok (.aload_n 0, 1) := by decide +kernel
theorem dX11_laysNet_79 : decode cX11_laysNet 79 = .ok (.getfield 58, 3) := by decide +kernel
theorem dX11_laysNet_82 : decode cX11_laysNet 82 = .ok (.iload_n 3, 1) := by decide +kernel
theorem dX11_laysNet_83 : decode cX11_laysNet 83 = .ok (.iload 4, 2) := by decide +kernel
theorem dX11_laysNet_85 : decode cX11_laysNet 85 = .ok (.aload_n 0, 1) := by decide +kernel
theorem dX11_laysNet_86 : decode cX11_laysNet 86 = .ok (.getfield 151, 3) := by decide +kernel
theorem dX11_laysNet_89 : decode cX11_laysNet 89 = .ok (.imul, 1) := by decide +kernel
theorem dX11_laysNet_90 : decode cX11_laysNet 90 = .ok (.iload 5, 2) := by decide +kernel
theorem dX11_laysNet_92 : decode cX11_laysNet 92 = .ok (.iadd, 1) := by decide +kernel
theorem dX11_laysNet_93 : decode cX11_laysNet 93 = .ok (.aload_n 0, 1) := by decide +kernel
theorem dX11_laysNet_94 : decode cX11_laysNet 94 = .ok (.invokevirtual 148, 3) := by decide +kernel
theorem dX11_laysNet_97 : decode cX11_laysNet 97 = .ok (.isub, 1) := by decide +kernel
theorem dX11_laysNet_98 : decode cX11_laysNet 98 = .ok (.iastore, 1) := by decide +kernel
theorem dX11_laysNet_99 : decode cX11_laysNet 99 = .ok (.aload_n 0, 1) := by decide +kernel
theorem dX11_laysNet_100 : decode cX11_laysNet 100 = .ok (.getfield 61, 3) := by decide +kernel
theorem dX11_laysNet_103 : decode cX11_laysNet 103 = .ok (.iload_n 3, 1) := by decide +kernel
theorem dX11_laysNet_104 : decode cX11_laysNet 104 = .ok (.aload_n 0, 1) := by decide +kernel
theorem dX11_laysNet_105 : decode cX11_laysNet 105 = .ok (.getfield 58, 3) := by decide +kernel
theorem dX11_laysNet_108 : decode cX11_laysNet 108 = .ok (.iload_n 3, 1) := by decide +kernel
theorem dX11_laysNet_109 : decode cX11_laysNet 109 = .ok (.iaload, 1) := by decide +kernel
theorem dX11_laysNet_110 : decode cX11_laysNet 110 = .ok (.aload_n 0, 1) := by decide +kernel
theorem dX11_laysNet_111 : decode cX11_laysNet 111 = .ok (.getfield 151, 3) := by decide +kernel
theorem dX11_laysNet_114 : decode cX11_laysNet 114 = .ok (.iadd, 1) := by decide +kernel
theorem dX11_laysNet_115 : decode cX11_laysNet 115 = .ok (.iastore, 1) := by decide +kernel
theorem dX11_laysNet_116 : decode cX11_laysNet 116 = .ok (.aload_n 0, 1) := by decide +kernel
theorem dX11_laysNet_117 : decode cX11_laysNet 117 = .ok (.getfield 64, 3) := by decide +kernel
theorem dX11_laysNet_120 : decode cX11_laysNet 120 = .ok (.iload_n 3, 1) := by decide +kernel
theorem dX11_laysNet_121 : decode cX11_laysNet 121 = .ok (.aload_n 0, 1) := by decide +kernel
theorem dX11_laysNet_122 : decode cX11_laysNet 122 = .ok (.getfield 13, 3) := by decide +kernel
theorem dX11_laysNet_125 : decode cX11_laysNet 125 = .ok (.bipush 47, 2) := by decide +kernel
theorem dX11_laysNet_127 : decode cX11_laysNet 127 = .ok (.bipush 12, 2) := by decide +kernel
theorem dX11_laysNet_129 : decode cX11_laysNet 129 = .ok (.iload_n 1, 1) := by decide +kernel
theorem dX11_laysNet_130 : decode cX11_laysNet 130 = .ok (.imul, 1) := by decide +kernel
theorem dX11_laysNet_131 : decode cX11_laysNet 131 = .ok (.iadd, 1) := by decide +kernel
theorem dX11_laysNet_132 : decode cX11_laysNet 132 = .ok (.iload 5, 2) := by decide +kernel
theorem dX11_laysNet_134 : decode cX11_laysNet 134 = .ok (.iadd, 1) := by decide +kernel
theorem dX11_laysNet_135 : decode cX11_laysNet 135 = .ok (.aload_n 0, 1) := by decide +kernel
theorem dX11_laysNet_136 : decode cX11_laysNet 136 = .ok (.invokevirtual 148, 3) := by decide +kernel
theorem dX11_laysNet_139 : decode cX11_laysNet 139 = .ok (.isub, 1) := by decide +kernel
theorem dX11_laysNet_140 : decode cX11_laysNet 140 = .ok (.iaload, 1) := by decide +kernel
theorem dX11_laysNet_141 : decode cX11_laysNet 141 = .ok (.iastore, 1) := by decide +kernel
theorem dX11_laysNet_142 : decode cX11_laysNet 142 = .ok (.goto 113, 3) := by decide +kernel
theorem dX11_laysNet_145 : decode cX11_laysNet 145 = .ok (.aload_n 0, 1) := by decide +kernel
theorem dX11_laysNet_146 : decode cX11_laysNet 146 = .ok (.getfield 43, 3) := by decide +kernel
theorem dX11_laysNet_149 : decode cX11_laysNet 149 = .ok (.bipush 25, 2) := by decide +kernel
theorem dX11_laysNet_151 : decode cX11_laysNet 151 = .ok (.iload_n 1, 1) := by decide +kernel
theorem dX11_laysNet_152 : decode cX11_laysNet 152 = .ok (.imul, 1) := by decide +kernel
theorem dX11_laysNet_153 : decode cX11_laysNet 153 = .ok (.iload 5, 2) := by decide +kernel
theorem dX11_laysNet_155 : decode cX11_laysNet 155 = .ok (.iadd, 1) := by decide +kernel
theorem dX11_laysNet_156 : decode cX11_laysNet 156 = .ok (.iaload, 1) := by decide +kernel
theorem dX11_laysNet_157 : decode cX11_laysNet 157 = .ok (.istore 6, 2) := by decide +kernel
theorem dX11_laysNet_159 : decode cX11_laysNet 159 = .ok (.aload_n 0, 1) := by decide +kernel
theorem dX11_laysNet_160 : decode cX11_laysNet 160 = .ok (.getfield 58, 3) := by decide +kernel
theorem dX11_laysNet_163 : decode cX11_laysNet 163 = .ok (.iload_n 3, 1) := by decide +kernel
theorem dX11_laysNet_164 : decode cX11_laysNet 164 = .ok (.aload_n 0, 1) := by decide +kernel
theorem dX11_laysNet_165 : decode cX11_laysNet 165 = .ok (.getfield 254, 3) := by decide +kernel
theorem dX11_laysNet_168 : decode cX11_laysNet 168 = .ok (.iastore, 1) := by decide +kernel
theorem dX11_laysNet_169 : decode cX11_laysNet 169 = .ok (.aload_n 0, 1) := by decide +kernel
theorem dX11_laysNet_170 : decode cX11_laysNet 170 = .ok (.getfield 61, 3) := by decide +kernel
theorem dX11_laysNet_173 : decode cX11_laysNet 173 = .ok (.iload_n 3, 1) := by decide +kernel
theorem dX11_laysNet_174 : decode cX11_laysNet 174 = .ok (.aload_n 0, 1) := by decide +kernel
theorem dX11_laysNet_175 : decode cX11_laysNet 175 = .ok (.getfield 254, 3) := by decide +kernel
theorem dX11_laysNet_178 : decode cX11_laysNet 178 = .ok (.iastore, 1) := by decide +kernel
theorem dX11_laysNet_179 : decode cX11_laysNet 179 = .ok (.aload_n 0, 1) := by decide +kernel
theorem dX11_laysNet_180 : decode cX11_laysNet 180 = .ok (.getfield 151, 3) := by decide +kernel
theorem dX11_laysNet_183 : decode cX11_laysNet 183 = .ok (.iconst 1, 1) := by decide +kernel
theorem dX11_laysNet_184 : decode cX11_laysNet 184 = .ok (.isub, 1) := by decide +kernel
theorem dX11_laysNet_185 : decode cX11_laysNet 185 = .ok (.istore 7, 2) := by decide +kernel
theorem dX11_laysNet_187 : decode cX11_laysNet 187 = .ok (.iload 7, 2) := by decide +kernel
theorem dX11_laysNet_189 : decode cX11_laysNet 189 = .ok (.ifCond .lt 50, 3) := by decide +kernel
theorem dX11_laysNet_192 : decode cX11_laysNet 192 = .ok (.iload 6, 2) := by decide +kernel
theorem dX11_laysNet_194 : decode cX11_laysNet 194 = .ok (.iload 7, 2) := by decide +kernel
theorem dX11_laysNet_196 : decode cX11_laysNet 196 = .ok (.invokestatic 161, 3) := by decide +kernel
theorem dX11_laysNet_199 : decode cX11_laysNet 199 = .ok (.ifCond .ne 6, 3) := by decide +kernel
theorem dX11_laysNet_202 : decode cX11_laysNet 202 = .ok (.goto 31, 3) := by decide +kernel
theorem dX11_laysNet_205 : decode cX11_laysNet 205 = .ok (.aload_n 0, 1) := by decide +kernel
theorem dX11_laysNet_206 : decode cX11_laysNet 206 = .ok (.getfield 61, 3) := by decide +kernel
theorem dX11_laysNet_209 : decode cX11_laysNet 209 = .ok (.iload_n 3, 1) := by decide +kernel
theorem dX11_laysNet_210 : decode cX11_laysNet 210 = .ok (.aload_n 0, 1) := by decide +kernel
theorem dX11_laysNet_211 : decode cX11_laysNet 211 = .ok (.getfield 58, 3) := by decide +kernel
theorem dX11_laysNet_214 : decode cX11_laysNet 214 = .ok (.iload_n 3, 1) := by decide +kernel
theorem dX11_laysNet_215 : decode cX11_laysNet 215 = .ok (.iaload, 1) := by decide +kernel
theorem dX11_laysNet_216 : decode cX11_laysNet 216 = .ok (.iastore, 1) := by decide +kernel
theorem dX11_laysNet_217 : decode cX11_laysNet 217 = .ok (.aload_n 0, 1) := by decide +kernel
theorem dX11_laysNet_218 : decode cX11_laysNet 218 = .ok (.getfield 58, 3) := by decide +kernel
theorem dX11_laysNet_221 : decode cX11_laysNet 221 = .ok (.iload_n 3, 1) := by decide +kernel
theorem dX11_laysNet_222 : decode cX11_laysNet 222 = .ok (.iload 4, 2) := by decide +kernel
theorem dX11_laysNet_224 : decode cX11_laysNet 224 = .ok (.aload_n 0, 1) := by decide +kernel
theorem dX11_laysNet_225 : decode cX11_laysNet 225 = .ok (.getfield 151, 3) := by decide +kernel
theorem dX11_laysNet_228 : decode cX11_laysNet 228 = .ok (.imul, 1) := by decide +kernel
theorem dX11_laysNet_229 : decode cX11_laysNet 229 = .ok (.iload 7, 2) := by decide +kernel
theorem dX11_laysNet_231 : decode cX11_laysNet 231 = .ok (.iadd, 1) := by decide +kernel
theorem dX11_laysNet_232 : decode cX11_laysNet 232 = .ok (.iastore, 1) := by decide +kernel
theorem dX11_laysNet_233 : decode cX11_laysNet 233 = .ok (.iinc 7 (-1), 3) := by decide +kernel
theorem dX11_laysNet_236 : decode cX11_laysNet 236 = .ok (.goto (-49), 3) := by decide +kernel
theorem dX11_laysNet_239 : decode cX11_laysNet 239 = .ok (.aload_n 0, 1) := by decide +kernel
theorem dX11_laysNet_240 : decode cX11_laysNet 240 = .ok (.getfield 64, 3) := by decide +kernel
theorem dX11_laysNet_243 : decode cX11_laysNet 243 = .ok (.iload_n 3, 1) := by decide +kernel
theorem dX11_laysNet_244 : decode cX11_laysNet 244 = .ok (.aload_n 0, 1) := by decide +kernel
theorem dX11_laysNet_245 : decode cX11_laysNet 245 = .ok (.getfield 13, 3) := by decide +kernel
theorem dX11_laysNet_248 : decode cX11_laysNet 248 = .ok (.bipush 22, 2) := by decide +kernel
theorem dX11_laysNet_250 : decode cX11_laysNet 250 = .ok (.iload 5, 2) := by decide +kernel
theorem dX11_laysNet_252 : decode cX11_laysNet 252 = .ok (.iadd, 1) := by decide +kernel
theorem dX11_laysNet_253 : decode cX11_laysNet 253 = .ok (.iaload, 1) := by decide +kernel
theorem dX11_laysNet_254 : decode cX11_laysNet 254 = .ok (.iastore, 1) := by decide +kernel
theorem dX11_laysNet_255 : decode cX11_laysNet 255 = .ok (.iinc 3 1, 3) := by decide +kernel
theorem dX11_laysNet_258 : decode cX11_laysNet 258 = .ok (.goto (-207), 3) := by decide +kernel
theorem dX11_laysNet_261 : decode cX11_laysNet 261 = .ok (.aload_n 0, 1) := by decide +kernel
theorem dX11_laysNet_262 : decode cX11_laysNet 262 = .ok (.iconst 0, 1) := by decide +kernel
theorem dX11_laysNet_263 : decode cX11_laysNet 263 = .ok (.putfield 257, 3) := by decide +kernel
theorem dX11_laysNet_266 : decode cX11_laysNet 266 = .ok (.iconst 0, 1) := by decide +kernel
theorem dX11_laysNet_267 : decode cX11_laysNet 267 = .ok (.istore_n 3, 1) := by decide +kernel
theorem dX11_laysNet_268 : decode cX11_laysNet 268 = .ok (.iconst 0, 1) := by decide +kernel
theorem dX11_laysNet_269 : decode cX11_laysNet 269 = .ok (.istore 4, 2) := by decide +kernel
theorem dX11_laysNet_271 : decode cX11_laysNet 271 = .ok (.iload 4, 2) := by decide +kernel
theorem dX11_laysNet_273 : decode cX11_laysNet 273 = .ok (.aload_n 0, 1) := by decide +kernel
theorem dX11_laysNet_274 : decode cX11_laysNet 274 = .ok (.getfield 13, 3) := by decide +kernel
theorem dX11_laysNet_277 : decode cX11_laysNet 277 = .ok (.iconst 1, 1) := by decide +kernel
theorem dX11_laysNet_278 : decode cX11_laysNet 278 = .ok (.iaload, 1) := by decide +kernel
theorem dX11_laysNet_279 : decode cX11_laysNet 279 = .ok (.if_icmp .gt 83, 3) := by decide +kernel
theorem dX11_laysNet_282 : decode cX11_laysNet 282 = .ok (.aload_n 0, 1) := by decide +kernel
theorem dX11_laysNet_283 : decode cX11_laysNet 283 = .ok (.iload_n 1, 1) := by decide +kernel
theorem dX11_laysNet_284 : decode cX11_laysNet 284 = .ok (.iload 4, 2) := by decide +kernel
theorem dX11_laysNet_286 : decode cX11_laysNet 286 = .ok (.invokevirtual 260, 3) := by decide +kernel
theorem dX11_laysNet_289 : decode cX11_laysNet 289 = .ok (.istore 5, 2) := by decide +kernel
theorem dX11_laysNet_291 : decode cX11_laysNet 291 = .ok (.iconst 0, 1) := by decide +kernel
theorem dX11_laysNet_292 : decode cX11_laysNet 292 = .ok (.istore 6, 2) := by decide +kernel
theorem dX11_laysNet_294 : decode cX11_laysNet 294 = .ok (.iload 6, 2) := by decide +kernel
theorem dX11_laysNet_296 : decode cX11_laysNet 296 = .ok (.aload_n 0, 1) := by decide +kernel
theorem dX11_laysNet_297 : decode cX11_laysNet 297 = .ok (.getfield 151, 3) := by decide +kernel
theorem dX11_laysNet_300 : decode cX11_laysNet 300 = .ok (.if_icmp .ge 53, 3) := by decide +kernel
theorem dX11_laysNet_303 : decode cX11_laysNet 303 = .ok (.iload 5, 2) := by decide +kernel
theorem dX11_laysNet_305 : decode cX11_laysNet 305 = .ok (.iload_n 3, 1) := by decide +kernel
theorem dX11_laysNet_306 : decode cX11_laysNet 306 = .ok (.ixor, 1) := by decide +kernel
theorem dX11_laysNet_307 : decode cX11_laysNet 307 = .ok (.iload 6, 2) := by decide +kernel
theorem dX11_laysNet_309 : decode cX11_laysNet 309 = .ok (.invokestatic 161, 3) := by decide +kernel
theorem dX11_laysNet_312 : decode cX11_laysNet 312 = .ok (.ifCond .ne 6, 3) := by decide +kernel
theorem dX11_laysNet_315 : decode cX11_laysNet 315 = .ok (.goto 32, 3) := by decide +kernel
theorem dX11_laysNet_318 : decode cX11_laysNet 318 = .ok (.aload_n 0, 1) := by decide +kernel
theorem dX11_laysNet_319 : decode cX11_laysNet 319 = .ok (.getfield 70, 3) := by decide +kernel
theorem dX11_laysNet_322 : decode cX11_laysNet 322 = .ok (.aload_n 0, 1) := by decide +kernel
theorem dX11_laysNet_323 : decode cX11_laysNet 323 = .ok (.getfield 257, 3) := by decide +kernel
theorem dX11_laysNet_326 : decode cX11_laysNet 326 = .ok (.iload 4, 2) := by decide +kernel
theorem dX11_laysNet_328 : decode cX11_laysNet 328 = .ok (.aload_n 0, 1) := by decide +kernel
theorem dX11_laysNet_329 : decode cX11_laysNet 329 = .ok (.getfield 151, 3) := by decide +kernel
theorem dX11_laysNet_332 : decode cX11_laysNet 332 = .ok (.imul, 1) := by decide +kernel
theorem dX11_laysNet_333 : decode cX11_laysNet 333 = .ok (.iload 6, 2) := by decide +kernel
theorem dX11_laysNet_335 : decode cX11_laysNet 335 = .ok (.iadd, 1) := by decide +kernel
theorem dX11_laysNet_336 : decode cX11_laysNet 336 = .ok (.iastore, 1) := by decide +kernel
theorem dX11_laysNet_337 : decode cX11_laysNet 337 = .ok (.aload_n 0, 1) := by decide +kernel
theorem dX11_laysNet_338 : decode cX11_laysNet 338 = .ok (.dup, 1) := by decide +kernel
theorem dX11_laysNet_339 : decode cX11_laysNet 339 = .ok (.getfield 257, 3) := by decide +kernel
theorem dX11_laysNet_342 : decode cX11_laysNet 342 = .ok (.iconst 1, 1) := by decide +kernel
theorem dX11_laysNet_343 : decode cX11_laysNet 343 = .ok (.iadd, 1) := by decide +kernel
theorem dX11_laysNet_344 : decode cX11_laysNet 344 = .ok (.putfield 257, 3) := by decide +kernel
theorem dX11_laysNet_347 : decode cX11_laysNet 347 = .ok (.iinc 6 1, 3) := by decide +kernel
theorem dX11_laysNet_350 : decode cX11_laysNet 350 = .ok (.goto (-56), 3) := by decide +kernel
theorem dX11_laysNet_353 : decode cX11_laysNet 353 = .ok (.iload 5, 2) := by decide +kernel
theorem dX11_laysNet_355 : decode cX11_laysNet 355 = .ok (.istore_n 3, 1) := by decide +kernel
theorem dX11_laysNet_356 : decode cX11_laysNet 356 = .ok (.iinc 4 1, 3) := by decide +kernel
theorem dX11_laysNet_359 : decode cX11_laysNet 359 = .ok (.goto (-88), 3) := by decide +kernel
theorem dX11_laysNet_362 : decode cX11_laysNet 362 = .ok (.return_, 1) := by decide +kernel
theorem dX11_laysLeft_0 : decode cX11_laysLeft 0 = .ok (.iconst 0, 1) := by decide +kernel
theorem dX11_laysLeft_1 : decode cX11_laysLeft 1 = .ok (.istore_n 2, 1) := by decide +kernel
theorem dX11_laysLeft_2 : decode cX11_laysLeft 2 = .ok (.iload_n 2, 1) := by decide +kernel
theorem dX11_laysLeft_3 : decode cX11_laysLeft 3 = .ok (.aload_n 0, 1) := by decide +kernel
theorem dX11_laysLeft_4 : decode cX11_laysLeft 4 = .ok (.getfield 254, 3) := by decide +kernel
theorem dX11_laysLeft_7 : decode cX11_laysLeft 7 = .ok (.if_icmp .gt 27, 3) := by decide +kernel
theorem dX11_laysLeft_10 : decode cX11_laysLeft 10 = .ok (.aload_n 0, 1) := by decide +kernel
theorem dX11_laysLeft_11 : decode cX11_laysLeft 11 = .ok (.getfield 67, 3) := by decide +kernel
theorem dX11_laysLeft_14 : decode cX11_laysLeft 14 = .ok (.iload_n 2, 1) := by decide +kernel
theorem dX11_laysLeft_15 : decode cX11_laysLeft 15 = .ok (.iload_n 2, 1) := by decide +kernel
theorem dX11_laysLeft_16 : decode cX11_laysLeft 16 = .ok (.iload_n 1, 1) := by decide +kernel
theorem dX11_laysLeft_17 : decode cX11_laysLeft 17 = .ok (.if_icmp .ne 7, 3) := by decide +kernel
theorem dX11_laysLeft_20 : decode cX11_laysLeft 20 = .ok (.iconst 0, 1) := by decide +kernel
theorem dX11_laysLeft_21 : decode cX11_laysLeft 21 = .ok (.goto 6, 3) := by decide +kernel
theorem dX11_laysLeft_24 : decode cX11_laysLeft 24 = .ok (.ldc_w 263, 3) := by decide +kernel
theorem dX11_laysLeft_27 : decode cX11_laysLeft 27 = .ok (.iastore, 1) := by decide +kernel
theorem dX11_laysLeft_28 : decode cX11_laysLeft 28 = .ok (.iinc 2 1, 3) := by decide +kernel
theorem dX11_laysLeft_31 : decode cX11_laysLeft 31 = .ok (.goto (-29), 3) := by decide +kernel
theorem dX11_laysLeft_34 : decode cX11_laysLeft 34 = .ok (.iconst 1, 1) := by decide +kernel
theorem dX11_laysLeft_35 : decode cX11_laysLeft 35 = .ok (.istore_n 2, 1) := by decide +kernel
theorem dX11_laysLeft_36 : decode cX11_laysLeft 36 = .ok (.iload_n 2, 1) := by decide +kernel
theorem dX11_laysLeft_37 : decode cX11_laysLeft 37 = .ok (.ifCond .eq 162, 3) := by decide +kernel
theorem dX11_laysLeft_40 : decode cX11_laysLeft 40 = .ok (.iconst 0, 1) := by decide +kernel
theorem dX11_laysLeft_41 : decode cX11_laysLeft 41 = .ok (.istore_n 2, 1) := by decide +kernel
theorem dX11_laysLeft_42 : decode cX11_laysLeft 42 = .ok (.iconst 0, 1) := by decide +kernel
theorem dX11_laysLeft_43 : decode cX11_laysLeft 43 = .ok (.istore_n 3, 1) := by decide +kernel
theorem dX11_laysLeft_44 : decode cX11_laysLeft 44 = .ok (.iload_n 3, 1) := by decide +kernel
theorem dX11_laysLeft_45 : decode cX11_laysLeft 45 = .ok (.aload_n 0, 1) := by decide +kernel
theorem dX11_laysLeft_46 : decode cX11_laysLeft 46 = .ok (.getfield 251, 3) := by decide +kernel
theorem dX11_laysLeft_49 : decode cX11_laysLeft 49 = .ok (.if_icmp .ge 147, 3) := by decide +kernel
theorem dX11_laysLeft_52 : decode cX11_laysLeft 52 = .ok (.aload_n 0, 1) := by decide +kernel
theorem dX11_laysLeft_53 : decode cX11_laysLeft 53 = .ok (.getfield 61, 3) := by decide +kernel
theorem dX11_laysLeft_56 : decode cX11_laysLeft 56 = .ok (.iload_n 3, 1) := by decide +kernel
theorem dX11_laysLeft_57 : decode cX11_laysLeft 57 = .ok (.iaload, 1) := by decide +kernel
theorem dX11_laysLeft_58 : decode cX11_laysLeft 58 = .ok (.aload_n 0, 1) := by decide +kernel
theorem dX11_laysLeft_59 : decode cX11_laysLeft 59 = .ok (.getfield 254, 3) := by decide +kernel
theorem dX11_laysLeft_62 : decode cX11_laysLeft 62 = .ok (.if_icmp .ne 14, 3) := by decide +kernel
theorem dX11_laysLeft_65 : decode cX11_laysLeft 65 = .ok (.iload_n 1, 1) := by decide +kernel
theorem dX11_laysLeft_66 : decode cX11_laysLeft 66 = .ok (.aload_n 0, 1) := by decide +kernel
theorem dX11_laysLeft_67 : decode cX11_laysLeft 67 = .ok (.getfield 254, 3) := by decide +kernel
theorem dX11_laysLeft_70 : decode cX11_laysLeft 70 = .ok (.if_icmp .eq 6, 3) := by decide +kernel
theorem dX11_laysLeft_73 : decode cX11_laysLeft 73 = .ok (.goto 117, 3) := by decide +kernel
theorem dX11_laysLeft_76 : decode cX11_laysLeft 76 = .ok (.aload_n 0, 1) := by decide +kernel
theorem dX11_laysLeft_77 : decode cX11_laysLeft 77 = .ok (.getfield 67, 3) := by decide +kernel
theorem dX11_laysLeft_80 : decode cX11_laysLeft 80 = .ok (.aload_n 0, 1) := by decide +kernel
theorem dX11_laysLeft_81 : decode cX11_laysLeft 81 = .ok (.getfield 58, 3) := by decide +kernel
theorem dX11_laysLeft_84 : decode cX11_laysLeft 84 = .ok (.iload_n 3, 1) := by decide +kernel
theorem dX11_laysLeft_85 : decode cX11_laysLeft 85 = .ok (.iaload, 1) := by decide +kernel
theorem dX11_laysLeft_86 : decode cX11_laysLeft 86 = .ok (.iaload, 1) := by decide +kernel
theorem dX11_laysLeft_87 : decode cX11_laysLeft 87 = .ok (.istore 4, 2) := by decide +kernel
theorem dX11_laysLeft_89 : decode cX11_laysLeft 89 = .ok (.aload_n 0, 1) := by decide +kernel
theorem dX11_laysLeft_90 : decode cX11_laysLeft 90 = .ok (.getfield 67, 3) := by decide +kernel
theorem dX11_laysLeft_93 : decode cX11_laysLeft 93 = .ok (.aload_n 0, 1) := by decide +kernel
theorem dX11_laysLeft_94 : decode cX11_laysLeft 94 = .ok (.getfield 61, 3) := by decide +kernel
theorem dX11_laysLeft_97 : decode cX11_laysLeft 97 = .ok (.iload_n 3, 1) := by decide +kernel
theorem dX11_laysLeft_98 : decode cX11_laysLeft 98 = .ok (.iaload, 1) := by decide +kernel
theorem dX11_laysLeft_99 : decode cX11_laysLeft 99 = .ok (.iaload, 1) := by decide +kernel
theorem dX11_laysLeft_100 : decode cX11_laysLeft 100 = .ok (.istore 5, 2) := by decide +kernel
theorem dX11_laysLeft_102 : decode cX11_laysLeft 102 = .ok (.iload 5, 2) := by decide +kernel
theorem dX11_laysLeft_104 : decode cX11_laysLeft 104 = .ok (.aload_n 0, 1) := by decide +kernel
theorem dX11_laysLeft_105 : decode cX11_laysLeft 105 = .ok (.getfield 64, 3) := by decide +kernel
theorem dX11_laysLeft_108 : decode cX11_laysLeft 108 = .ok (.iload_n 3, 1) := by decide +kernel
theorem dX11_laysLeft_109 : decode cX11_laysLeft 109 = .ok (.iaload, 1) := by decide +kernel
theorem dX11_laysLeft_110 : decode cX11_laysLeft 110 = .ok (.iadd, 1) := by decide +kernel
theorem dX11_laysLeft_111 : decode cX11_laysLeft 111 = .ok (.iload 4, 2) := by decide +kernel
theorem dX11_laysLeft_113 : decode cX11_laysLeft 113 = .ok (.if_icmp .ge 28, 3) := by decide +kernel
theorem dX11_laysLeft_116 : decode cX11_laysLeft 116 = .ok (.aload_n 0, 1) := by decide +kernel
theorem dX11_laysLeft_117 : decode cX11_laysLeft 117 = .ok (.getfield 67, 3) := by decide +kernel
theorem dX11_laysLeft_120 : decode cX11_laysLeft 120 = .ok (.aload_n 0, 1) := by decide +kernel
theorem dX11_laysLeft_121 : decode cX11_laysLeft 121 = .ok (.getfield 58, 3) := by decide +kernel
theorem dX11_laysLeft_124 : decode cX11_laysLeft 124 = .ok (.iload_n 3, 1) := by decide +kernel
theorem dX11_laysLeft_125 : decode cX11_laysLeft 125 = .ok (.iaload, 1) := by decide +kernel
theorem dX11_laysLeft_126 : decode cX11_laysLeft 126 = .ok (.iload 5, 2) := by decide +kernel
theorem dX11_laysLeft_128 : decode cX11_laysLeft 128 = .ok (.aload_n 0, 1) := by decide +kernel
theorem dX11_laysLeft_129 : decode cX11_laysLeft 129 = .ok (.getfield 64, 3) := by decide +kernel
theorem dX11_laysLeft_132 : decode cX11_laysLeft 132 = .ok (.iload_n 3, 1) := by decide +kernel
theorem dX11_laysLeft_133 : decode cX11_laysLeft 133 = .ok (.iaload, 1) := by decide +kernel
theorem dX11_laysLeft_134 : decode cX11_laysLeft 134 = .ok (.iadd, 1) := by decide +kernel
theorem dX11_laysLeft_135 : decode cX11_laysLeft 135 = .ok (.iastore, 1) := by decide +kernel
theorem dX11_laysLeft_136 : decode cX11_laysLeft 136 = .ok (.iconst 1, 1) := by decide +kernel
theorem dX11_laysLeft_137 : decode cX11_laysLeft 137 = .ok (.istore_n 2, 1) := by decide +kernel
theorem dX11_laysLeft_138 : decode cX11_laysLeft 138 = .ok (.goto 52, 3) := by decide +kernel
theorem dX11_laysLeft_141 : decode cX11_laysLeft 141 = .ok (.iload 4, 2) := by decide +kernel
theorem dX11_laysLeft_143 : decode cX11_laysLeft 143 = .ok (.aload_n 0, 1) := by decide +kernel
theorem dX11_laysLeft_144 : decode cX11_laysLeft 144 = .ok (.getfield 64, 3) := by decide +kernel
theorem dX11_laysLeft_147 : decode cX11_laysLeft 147 = .ok (.iload_n 3, 1) := by decide +kernel
theorem dX11_laysLeft_148 : decode cX11_laysLeft 148 = .ok (.iaload, 1) := by decide +kernel
theorem dX11_laysLeft_149 : decode cX11_laysLeft 149 = .ok (.iadd, 1) := by decide +kernel
theorem dX11_laysLeft_150 : decode cX11_laysLeft 150 = .ok (.iload 5, 2) := by decide +kernel
theorem dX11_laysLeft_152 : decode cX11_laysLeft 152 = .ok (.if_icmp .ge 38, 3) := by decide +kernel
theorem dX11_laysLeft_155 : decode cX11_laysLeft 155 = .ok (.aload_n 0, 1) := by decide +kernel
theorem dX11_laysLeft_156 : decode cX11_laysLeft 156 = .ok (.getfield 61, 3) := by decide +kernel
theorem dX11_laysLeft_159 : decode cX11_laysLeft 159 = .ok (.iload_n 3, 1) := by decide +kernel
theorem dX11_laysLeft_160 : decode cX11_laysLeft 160 = .ok (.iaload, 1) := by decide +kernel
theorem dX11_laysLeft_161 : decode cX11_laysLeft 161 = .ok (.aload_n 0, 1) := by decide +kernel
theorem dX11_laysLeft_162 : decode cX11_laysLeft 162 = .ok (.getfield 254, 3) := by decide +kernel
theorem dX11_laysLeft_165 : decode cX11_laysLeft 165 = .ok (.if_icmp .eq 25, 3) := by decide +kernel
theorem dX11_laysLeft_168 : decode cX11_laysLeft 168 = .ok (.aload_n 0, 1) := by decide +kernel
theorem dX11_laysLeft_169 : decode cX11_laysLeft 169 = .ok (.getfield 67, 3) := by decide +kernel
theorem dX11_laysLeft_172 : decode cX11_laysLeft 172 = .ok (.aload_n 0, 1) := by decide +kernel
theorem dX11_laysLeft_173 : decode cX11_laysLeft 173 = .ok (.getfield 61, 3) := by decide +kernel
theorem dX11_laysLeft_176 : decode cX11_laysLeft 176 = .ok (.iload_n 3, 1) := by decide +kernel
theorem dX11_laysLeft_177 : decode cX11_laysLeft 177 = .ok (.iaload, 1) := by decide +kernel
theorem dX11_laysLeft_178 : decode cX11_laysLeft 178 = .ok (.iload 4, 2) := by decide +kernel
theorem dX11_laysLeft_180 : decode cX11_laysLeft 180 = .ok (.aload_n 0, 1) := by decide +kernel
theorem dX11_laysLeft_181 : decode cX11_laysLeft 181 = .ok (.getfield 64, 3) := by decide +kernel
theorem dX11_laysLeft_184 : decode cX11_laysLeft 184 = .ok (.iload_n 3, 1) := by decide +kernel
theorem dX11_laysLeft_185 : decode cX11_laysLeft 185 = .ok (.iaload, 1) := by decide +kernel
theorem dX11_laysLeft_186 : decode cX11_laysLeft 186 = .ok (.iadd, 1) := by decide +kernel
theorem dX11_laysLeft_187 : decode cX11_laysLeft 187 = .ok (.iastore, 1) := by decide +kernel
theorem dX11_laysLeft_188 : decode cX11_laysLeft 188 = .ok (.iconst 1, 1) := by decide +kernel
theorem dX11_laysLeft_189 : decode cX11_laysLeft 189 = .ok (.istore_n 2, 1) := by decide +kernel
theorem dX11_laysLeft_190 : decode cX11_laysLeft 190 = .ok (.iinc 3 1, 3) := by decide +kernel
theorem dX11_laysLeft_193 : decode cX11_laysLeft 193 = .ok (.goto (-149), 3) := by decide +kernel
theorem dX11_laysLeft_196 : decode cX11_laysLeft 196 = .ok (.goto (-160), 3) := by decide +kernel
theorem dX11_laysLeft_199 : decode cX11_laysLeft 199 = .ok (.return_, 1) := by decide +kernel
theorem dX11_laysWay_0 : decode cX11_laysWay 0 = .ok (.aload_n 0, 1) := by decide +kernel
theorem dX11_laysWay_1 : decode cX11_laysWay 1 = .ok (.iconst 0, 1) := by decide +kernel
theorem dX11_laysWay_2 : decode cX11_laysWay 2 = .ok (.putfield 264, 3) := by decide +kernel
theorem dX11_laysWay_5 : decode cX11_laysWay 5 = .ok (.iload_n 1, 1) := by decide +kernel
theorem dX11_laysWay_6 : decode cX11_laysWay 6 = .ok (.istore_n 2, 1) := by decide +kernel
theorem dX11_laysWay_7 : decode cX11_laysWay 7 = .ok (.aload_n 0, 1) := by decide +kernel
theorem dX11_laysWay_8 : decode cX11_laysWay 8 = .ok (.getfield 67, 3) := by decide +kernel
theorem dX11_laysWay_11 : decode cX11_laysWay 11 = .ok (.iload_n 2, 1) := by decide +kernel
theorem dX11_laysWay_12 : decode cX11_laysWay 12 = .ok (.iaload, 1) := by decide +kernel
theorem dX11_laysWay_13 : decode cX11_laysWay 13 = .ok (.ifCond .le 69, 3) := by decide +kernel
theorem dX11_laysWay_16 : decode cX11_laysWay 16 = .ok (.iconst 0, 1) := by decide +kernel
theorem dX11_laysWay_17 : decode cX11_laysWay 17 = .ok (.istore_n 3, 1) := by decide +kernel
theorem dX11_laysWay_18 : decode cX11_laysWay 18 = .ok (.aload_n 0, 1) := by decide +kernel
theorem dX11_laysWay_19 : decode cX11_laysWay 19 = .ok (.iload_n 3, 1) := by decide +kernel
theorem dX11_laysWay_20 : decode cX11_laysWay 20 = .ok (.iload_n 2, 1) := by decide +kernel
theorem dX11_laysWay_21 : decode cX11_laysWay 21 = .ok (.invokevirtual 267, 3) := by decide +kernel
theorem dX11_laysWay_24 : decode cX11_laysWay 24 = .ok (.ifCond .ne 9, 3) := by decide +kernel
theorem dX11_laysWay_27 : decode cX11_laysWay 27 = .ok (.iinc 3 1, 3) := by decide +kernel
theorem dX11_laysWay_30 : decode cX11_laysWay 30 = .ok (.goto (-12), 3) := by decide +kernel
theorem dX11_laysWay_33 : decode cX11_laysWay 33 = .ok (.aload_n 0, 1) := by decide +kernel
theorem dX11_laysWay_34 : decode cX11_laysWay 34 = .ok (.getfield 73, 3) := by decide +kernel
theorem dX11_laysWay_37 : decode cX11_laysWay 37 = .ok (.aload_n 0, 1) := by decide +kernel
theorem dX11_laysWay_38 : decode cX11_laysWay 38 = .ok (.getfield 264, 3) := by decide +kernel
theorem dX11_laysWay_41 : decode cX11_laysWay 41 = .ok (.iload_n 3, 1) := by decide +kernel
theorem dX11_laysWay_42 : decode cX11_laysWay 42 = .ok (.iastore, 1) := by decide +kernel
theorem dX11_laysWay_43 : decode cX11_laysWay 43 = .ok (.aload_n 0, 1) := by decide +kernel
theorem dX11_laysWay_44 : decode cX11_laysWay 44 = .ok (.dup, 1) := by decide +kernel
theorem dX11_laysWay_45 : decode cX11_laysWay 45 = .ok (.getfield 264, 3) := by decide +kernel
theorem dX11_laysWay_48 : decode cX11_laysWay 48 = .ok (.iconst 1, 1) := by decide +kernel
theorem dX11_laysWay_49 : decode cX11_laysWay 49 = .ok (.iadd, 1) := by decide +kernel
theorem dX11_laysWay_50 : decode cX11_laysWay 50 = .ok (.putfield 264, 3) := by decide +kernel
theorem dX11_laysWay_53 : decode cX11_laysWay 53 = .ok (.aload_n 0, 1) := by decide +kernel
theorem dX11_laysWay_54 : decode cX11_laysWay 54 = .ok (.getfield 58, 3) := by decide +kernel
theorem dX11_laysWay_57 : decode cX11_laysWay 57 = .ok (.iload_n 3, 1) := by decide +kernel
theorem dX11_laysWay_58 : decode cX11_laysWay 58 = .ok (.iaload, 1) := by decide +kernel
theorem dX11_laysWay_59 : decode cX11_laysWay 59 = .ok (.iload_n 2, 1) := by decide +kernel
theorem dX11_laysWay_60 : decode cX11_laysWay 60 = .ok (.if_icmp .ne 12, 3) := by decide +kernel
theorem dX11_laysWay_63 : decode cX11_laysWay 63 = .ok (.aload_n 0, 1) := by decide +kernel
theorem dX11_laysWay_64 : decode cX11_laysWay 64 = .ok (.getfield 61, 3) := by decide +kernel
theorem dX11_laysWay_67 : decode cX11_laysWay 67 = .ok (.iload_n 3, 1) := by decide +kernel
theorem dX11_laysWay_68 : decode cX11_laysWay 68 = .ok (.iaload, 1) := by decide +kernel
theorem dX11_laysWay_69 : decode cX11_laysWay 69 = .ok (.goto 9, 3) := by decide +kernel
theorem dX11_laysWay_72 : decode cX11_laysWay 72 = .ok (.aload_n 0, 1) := by decide +kernel
theorem dX11_laysWay_73 : decode cX11_laysWay 73 = .ok (.getfield 58, 3) := by decide +kernel
theorem dX11_laysWay_76 : decode cX11_laysWay 76 = .ok (.iload_n 3, 1) := by decide +kernel
theorem dX11_laysWay_77 : decode cX11_laysWay 77 = .ok (.iaload, 1) := by decide +kernel
theorem dX11_laysWay_78 : decode cX11_laysWay 78 = .ok (.istore_n 2, 1) := by decide +kernel
theorem dX11_laysWay_79 : decode cX11_laysWay 79 = .ok (.goto (-72), 3) := by decide +kernel
theorem dX11_laysWay_82 : decode cX11_laysWay 82 = .ok (.return_, 1) := by decide +kernel
theorem dX11_leads_0 : decode cX11_leads 0 = .ok (.aload_n 0, 1) := by decide +kernel
theorem dX11_leads_1 : decode cX11_leads 1 = .ok (.getfield 58, 3) := by decide +kernel
theorem dX11_leads_4 : decode cX11_leads 4 = .ok (.iload_n 1, 1) := by decide +kernel
theorem dX11_leads_5 : decode cX11_leads 5 = .ok (.iaload, 1) := by decide +kernel
theorem dX11_leads_6 : decode cX11_leads 6 = .ok (.iload_n 2, 1) := by decide +kernel
theorem dX11_leads_7 : decode cX11_leads 7 = .ok (.if_icmp .eq 15, 3) := by decide +kernel
theorem dX11_leads_10 : decode cX11_leads 10 = .ok (.aload_n 0, 1) := by decide +kernel
theorem dX11_leads_11 : decode cX11_leads 11 = .ok (.getfield 61, 3) := by decide +kernel
theorem dX11_leads_14 : decode cX11_leads 14 = .ok (.iload_n 1, 1) := by decide +kernel
theorem dX11_leads_15 : decode cX11_leads 15 = .ok (.iaload, 1) := by decide +kernel
theorem dX11_leads_16 : decode cX11_leads 16 = .ok (.iload_n 2, 1) := by decide +kernel
theorem dX11_leads_17 : decode cX11_leads 17 = .ok (.if_icmp .eq 5, 3) := by decide +kernel
theorem dX11_leads_20 : decode cX11_leads 20 = .ok (.iconst 0, 1) := by decide +kernel
theorem dX11_leads_21 : decode cX11_leads 21 = .ok (.ireturn, 1) := by decide +kernel
theorem dX11_leads_22 : decode cX11_leads 22 = .ok (.aload_n 0, 1) := by decide +kernel
theorem dX11_leads_23 : decode cX11_leads 23 = .ok (.getfield 58, 3) := by decide +kernel
theorem dX11_leads_26 : decode cX11_leads 26 = .ok (.iload_n 1, 1) := by decide +kernel
theorem dX11_leads_27 : decode cX11_leads 27 = .ok (.iaload, 1) := by decide +kernel
theorem dX11_leads_28 : decode cX11_leads 28 = .ok (.iload_n 2, 1) := by decide +kernel
theorem dX11_leads_29 : decode cX11_leads 29 = .ok (.if_icmp .ne 12, 3) := by decide +kernel
theorem dX11_leads_32 : decode cX11_leads 32 = .ok (.aload_n 0, 1) := by decide +kernel
theorem dX11_leads_33 : decode cX11_leads 33 = .ok (.getfield 61, 3) := by decide +kernel
theorem dX11_leads_36 : decode cX11_leads 36 = .ok (.iload_n 1, 1) := by decide +kernel
theorem dX11_leads_37 : decode cX11_leads 37 = .ok (.iaload, 1) := by decide +kernel
theorem dX11_leads_38 : decode cX11_leads 38 = .ok (.goto 9, 3) := by decide +kernel
theorem dX11_leads_41 : decode cX11_leads 41 = .ok (.aload_n 0, 1) := by decide +kernel
theorem dX11_leads_42 : decode cX11_leads 42 = .ok (.getfield 58, 3) := by decide +kernel
theorem dX11_leads_45 : decode cX11_leads 45 = .ok (.iload_n 1, 1) := by decide +kernel
theorem dX11_leads_46 : decode cX11_leads 46 = .ok (.iaload, 1) := by decide +kernel
theorem dX11_leads_47 : decode cX11_leads 47 = .ok (.istore_n 3, 1) := by decide +kernel
theorem dX11_leads_48 : decode cX11_leads 48 = .ok (.aload_n 0, 1) := by decide +kernel
theorem dX11_leads_49 : decode cX11_leads 49 = .ok (.getfield 67, 3) := by decide +kernel
theorem dX11_leads_52 : decode cX11_leads 52 = .ok (.iload_n 3, 1) := by decide +kernel
theorem dX11_leads_53 : decode cX11_leads 53 = .ok (.iaload, 1) := by decide +kernel
theorem dX11_leads_54 : decode cX11_leads 54 = .ok (.aload_n 0, 1) := by decide +kernel
theorem dX11_leads_55 : decode cX11_leads 55 = .ok (.getfield 64, 3) := by decide +kernel
theorem dX11_leads_58 : decode cX11_leads 58 = .ok (.iload_n 1, 1) := by decide +kernel
theorem dX11_leads_59 : decode cX11_leads 59 = .ok (.iaload, 1) := by decide +kernel
theorem dX11_leads_60 : decode cX11_leads 60 = .ok (.iadd, 1) := by decide +kernel
theorem dX11_leads_61 : decode cX11_leads 61 = .ok (.aload_n 0, 1) := by decide +kernel
theorem dX11_leads_62 : decode cX11_leads 62 = .ok (.getfield 67, 3) := by decide +kernel
theorem dX11_leads_65 : decode cX11_leads 65 = .ok (.iload_n 2, 1) := by decide +kernel
theorem dX11_leads_66 : decode cX11_leads 66 = .ok (.iaload, 1) := by decide +kernel
theorem dX11_leads_67 : decode cX11_leads 67 = .ok (.if_icmp .ne 7, 3) := by decide +kernel
theorem dX11_leads_70 : decode cX11_leads 70 = .ok (.iconst 1, 1) := by decide +kernel
theorem dX11_leads_71 : decode cX11_leads 71 = .ok (.goto 4, 3) := by decide +kernel
theorem dX11_leads_74 : decode cX11_leads 74 = .ok (.iconst 0, 1) := by decide +kernel
theorem dX11_leads_75 : decode cX11_leads 75 = .ok (.ireturn, 1) := by decide +kernel
theorem dX11_events_0 : decode cX11_events 0 = .ok (.aload_n 0, 1) := by decide +kernel
theorem dX11_events_1 : decode cX11_events 1 = .ok (.iconst 0, 1) := by decide +kernel
theorem dX11_events_2 : decode cX11_events 2 = .ok (.putfield 1, 3) := by decide +kernel
theorem dX11_events_5 : decode cX11_events 5 = .ok (.iload_n 1, 1) := by decide +kernel
theorem dX11_events_6 : decode cX11_events 6 = .ok (.invokestatic 165, 3) := by decide +kernel
theorem dX11_events_9 : decode cX11_events 9 = .ok (.ifCond .ne 5, 3) := by decide +kernel
theorem dX11_events_12 : decode cX11_events 12 = .ok (.iconst (-1), 1) := by decide +kernel
theorem dX11_events_13 : decode cX11_events 13 = .ok (.ireturn, 1) := by decide +kernel
theorem dX11_events_14 : decode cX11_events 14 = .ok (.aload_n 0, 1) := by decide +kernel
theorem dX11_events_15 : decode cX11_events 15 = .ok (.iload_n 1, 1) := by decide +kernel
theorem dX11_events_16 : decode cX11_events 16 = .ok (.invokevirtual 270, 3) := by decide +kernel
theorem dX11_events_19 : decode cX11_events 19 = .ok (.aload_n 0, 1) := by decide +kernel
theorem dX11_events_20 : decode cX11_events 20 = .ok (.getfield 257, 3) := by decide +kernel
theorem dX11_events_23 : decode cX11_events 23 = .ok (.ireturn, 1) := by decide +kernel
theorem dX11_event_0 : decode cX11_event 0 = .ok (.aload_n 0, 1) := by decide +kernel
theorem dX11_event_1 : decode cX11_event 1 = .ok (.iconst 0, 1) := by decide +kernel
theorem dX11_event_2 : decode cX11_event 2 = .ok (.putfield 1, 3) := by decide +kernel
theorem dX11_event_5 : decode cX11_event 5 = .ok (.iload_n 1, 1) := by decide +kernel
theorem dX11_event_6 : decode cX11_event 6 = .ok (.invokestatic 165, 3) := by decide +kernel
theorem dX11_event_9 : decode cX11_event 9 = .ok (.ifCond .eq 12, 3) := by decide +kernel
theorem dX11_event_12 : decode cX11_event 12 = .ok (.iload_n 3, 1) := by decide +kernel
theorem dX11_event_13 : decode cX11_event 13 = .ok (.iconst 0, 1) := by decide +kernel
theorem dX11_event_14 : decode cX11_event 14 = .ok (.iconst 1, 1) := by decide +kernel
theorem dX11_event_15 : decode cX11_event 15 = .ok (.invokestatic 144, 3) := by decide +kernel
theorem dX11_event_18 : decode cX11_event 18 = .ok (.ifCond .ne 5, 3) := by decide +kernel
theorem dX11_event_21 : decode cX11_event 21 = .ok (.iconst (-1), 1) := by decide +kernel
theorem dX11_event_22 : decode cX11_event 22 = .ok (.ireturn, 1) := by decide +kernel
theorem dX11_event_23 : decode cX11_event 23 = .ok (.aload_n 0, 1) := by decide +kernel
theorem dX11_event_24 : decode cX11_event 24 = .ok (.iload_n 1, 1) := by decide +kernel
theorem dX11_event_25 : decode cX11_event 25 = .ok (.invokevirtual 270, 3) := by decide +kernel
theorem dX11_event_28 : decode cX11_event 28 = .ok (.iload_n 2, 1) := by decide +kernel
theorem dX11_event_29 : decode cX11_event 29 = .ok (.iconst 0, 1) := by decide +kernel
theorem dX11_event_30 : decode cX11_event 30 = .ok (.aload_n 0, 1) := by decide +kernel
theorem dX11_event_31 : decode cX11_event 31 = .ok (.getfield 257, 3) := by decide +kernel
theorem dX11_event_34 : decode cX11_event 34 = .ok (.iconst 1, 1) := by decide +kernel
theorem dX11_event_35 : decode cX11_event 35 = .ok (.isub, 1) := by decide +kernel
theorem dX11_event_36 : decode cX11_event 36 = .ok (.invokestatic 144, 3) := by decide +kernel
theorem dX11_event_39 : decode cX11_event 39 = .ok (.ifCond .ne 5, 3) := by decide +kernel
theorem dX11_event_42 : decode cX11_event 42 = .ok (.iconst (-1), 1) := by decide +kernel
theorem dX11_event_43 : decode cX11_event 43 = .ok (.ireturn, 1) := by decide +kernel
theorem dX11_event_44 : decode cX11_event 44 = .ok (.iload_n 3, 1) := by decide +kernel
theorem dX11_event_45 : decode cX11_event 45 = .ok (.ifCond .ne 17, 3) := by decide +kernel
theorem dX11_event_48 : decode cX11_event 48 = .ok (.aload_n 0, 1) := by decide +kernel
theorem dX11_event_49 : decode cX11_event 49 = .ok (.getfield 70, 3) := by decide +kernel
theorem dX11_event_52 : decode cX11_event 52 = .ok (.iload_n 2, 1) := by decide +kernel
theorem dX11_event_53 : decode cX11_event 53 = .ok (.iaload, 1) := by decide +kernel
theorem dX11_event_54 : decode cX11_event 54 = .ok (.aload_n 0, 1) := by decide +kernel
theorem dX11_event_55 : decode cX11_event 55 = .ok (.getfield 151, 3) := by decide +kernel
theorem dX11_event_58 : decode cX11_event 58 = .ok (.irem, 1) := by decide +kernel
theorem dX11_event_59 : decode cX11_event 59 = .ok (.goto 14, 3) := by decide +kernel
theorem dX11_event_62 : decode cX11_event 62 = .ok (.aload_n 0, 1) := by decide +kernel
theorem dX11_event_63 : decode cX11_event 63 = .ok (.getfield 70, 3) := by decide +kernel
theorem dX11_event_66 : decode cX11_event 66 = .ok (.iload_n 2, 1) := by decide +kernel
theorem dX11_event_67 : decode cX11_event 67 = .ok (.iaload, 1) := by decide +kernel
theorem dX11_event_68 : decode cX11_event 68 = .ok (.aload_n 0, 1) := by decide +kernel
theorem dX11_event_69 : decode cX11_event 69 = .ok (.getfield 151, 3) := by decide +kernel
theorem dX11_event_72 : decode cX11_event 72 = .ok (.idiv, 1) := by decide +kernel
theorem dX11_event_73 : decode cX11_event 73 = .ok (.ireturn, 1) := by decide +kernel
theorem dX11_isPair_0 : decode cX11_isPair 0 = .ok (.iload_n 1, 1) := by decide +kernel
theorem dX11_isPair_1 : decode cX11_isPair 1 = .ok (.invokestatic 165, 3) := by decide +kernel
theorem dX11_isPair_4 : decode cX11_isPair 4 = .ok (.ifCond .ne 5, 3) := by decide +kernel
theorem dX11_isPair_7 : decode cX11_isPair 7 = .ok (.iconst 0, 1) := by decide +kernel
theorem dX11_isPair_8 : decode cX11_isPair 8 = .ok (.ireturn, 1) := by decide +kernel
theorem dX11_isPair_9 : decode cX11_isPair 9 = .ok (.aload_n 0, 1) := by decide +kernel
theorem dX11_isPair_10 : decode cX11_isPair 10 = .ok (.iload_n 1, 1) := by decide +kernel
theorem dX11_isPair_11 : decode cX11_isPair 11 = .ok (.invokevirtual 270, 3) := by decide +kernel
theorem dX11_isPair_14 : decode cX11_isPair 14 = .ok (.iload_n 2, 1) := by decide +kernel
theorem dX11_isPair_15 : decode cX11_isPair 15 = .ok (.iconst 0, 1) := by decide +kernel
theorem dX11_isPair_16 : decode cX11_isPair 16 = .ok (.aload_n 0, 1) := by decide +kernel
theorem dX11_isPair_17 : decode cX11_isPair 17 = .ok (.getfield 257, 3) := by decide +kernel
theorem dX11_isPair_20 : decode cX11_isPair 20 = .ok (.iconst 1, 1) := by decide +kernel
theorem dX11_isPair_21 : decode cX11_isPair 21 = .ok (.isub, 1) := by decide +kernel
theorem dX11_isPair_22 : decode cX11_isPair 22 = .ok (.invokestatic 144, 3) := by decide +kernel
theorem dX11_isPair_25 : decode cX11_isPair 25 = .ok (.ifCond .eq 26, 3) := by decide +kernel
theorem dX11_isPair_28 : decode cX11_isPair 28 = .ok (.iload_n 3, 1) := by decide +kernel
theorem dX11_isPair_29 : decode cX11_isPair 29 = .ok (.iconst (-1), 1) := by decide +kernel
theorem dX11_isPair_30 : decode cX11_isPair 30 = .ok (.aload_n 0, 1) := by decide +kernel
theorem dX11_isPair_31 : decode cX11_isPair 31 = .ok (.getfield 257, 3) := by decide +kernel
theorem dX11_isPair_34 : decode cX11_isPair 34 = .ok (.iconst 1, 1) := by decide +kernel
theorem dX11_isPair_35 : decode cX11_isPair 35 = .ok (.isub, 1) := by decide +kernel
theorem dX11_isPair_36 : decode cX11_isPair 36 = .ok (.invokestatic 144, 3) := by decide +kernel
theorem dX11_isPair_39 : decode cX11_isPair 39 = .ok (.ifCond .eq 12, 3) := by decide +kernel
theorem dX11_isPair_42 : decode cX11_isPair 42 = .ok (.iload_n 2, 1) := by decide +kernel
theorem dX11_isPair_43 : decode cX11_isPair 43 = .ok (.iload_n 3, 1) := by decide +kernel
theorem dX11_isPair_44 : decode cX11_isPair 44 = .ok (.if_icmp .eq 7, 3) := by decide +kernel
theorem dX11_isPair_47 : decode cX11_isPair 47 = .ok (.iconst 1, 1) := by decide +kernel
theorem dX11_isPair_48 : decode cX11_isPair 48 = .ok (.goto 4, 3) := by decide +kernel
theorem dX11_isPair_51 : decode cX11_isPair 51 = .ok (.iconst 0, 1) := by decide +kernel
theorem dX11_isPair_52 : decode cX11_isPair 52 = .ok (.ireturn, 1) := by decide +kernel
theorem dX11_aims_0 : decode cX11_aims 0 = .ok (.aload_n 0, 1) := by decide +kernel
theorem dX11_aims_1 : decode cX11_aims 1 = .ok (.iload_n 1, 1) := by decide +kernel
theorem dX11_aims_2 : decode cX11_aims 2 = .ok (.ifCond .ge 10, 3) := by decide +kernel
theorem dX11_aims_5 : decode cX11_aims 5 = .ok (.aload_n 0, 1) := by decide +kernel
theorem dX11_aims_6 : decode cX11_aims 6 = .ok (.getfield 254, 3) := by decide +kernel
theorem dX11_aims_9 : decode cX11_aims 9 = .ok (.goto 9, 3) := by decide +kernel
theorem dX11_aims_12 : decode cX11_aims 12 = .ok (.aload_n 0, 1) := by decide +kernel
theorem dX11_aims_13 : decode cX11_aims 13 = .ok (.getfield 70, 3) := by decide +kernel
theorem dX11_aims_16 : decode cX11_aims 16 = .ok (.iload_n 1, 1) := by decide +kernel
theorem dX11_aims_17 : decode cX11_aims 17 = .ok (.iaload, 1) := by decide +kernel
theorem dX11_aims_18 : decode cX11_aims 18 = .ok (.invokevirtual 273, 3) := by decide +kernel
theorem dX11_aims_21 : decode cX11_aims 21 = .ok (.return_, 1) := by decide +kernel
theorem dX11_far_0 : decode cX11_far 0 = .ok (.aload_n 0, 1) := by decide +kernel
theorem dX11_far_1 : decode cX11_far 1 = .ok (.iconst 0, 1) := by decide +kernel
theorem dX11_far_2 : decode cX11_far 2 = .ok (.putfield 1, 3) := by decide +kernel
theorem dX11_far_5 : decode cX11_far 5 = .ok (.aload_n 0, 1) := by decide +kernel
theorem dX11_far_6 : decode cX11_far 6 = .ok (.iload_n 1, 1) := by decide +kernel
theorem dX11_far_7 : decode cX11_far 7 = .ok (.iload_n 2, 1) := by decide +kernel
theorem dX11_far_8 : decode cX11_far 8 = .ok (.iload_n 3, 1) := by decide +kernel
theorem dX11_far_9 : decode cX11_far 9 = .ok (.invokevirtual 276, 3) := by decide +kernel
theorem dX11_far_12 : decode cX11_far 12 = .ok (.ifCond .ne 5, 3) := by decide +kernel
theorem dX11_far_15 : decode cX11_far 15 = .ok (.iconst (-1), 1) := by decide +kernel
theorem dX11_far_16 : decode cX11_far 16 = .ok (.ireturn, 1) := by decide +kernel
theorem dX11_far_17 : decode cX11_far 17 = .ok (.aload_n 0, 1) := by decide +kernel
theorem dX11_far_18 : decode cX11_far 18 = .ok (.iload_n 3, 1) := by decide +kernel
theorem dX11_far_19 : decode cX11_far 19 = .ok (.invokevirtual 279, 3) := by decide +kernel
theorem dX11_far_22 : decode cX11_far 22 = .ok (.aload_n 0, 1) := by decide +kernel
theorem dX11_far_23 : decode cX11_far 23 = .ok (.getfield 67, 3) := by decide +kernel
theorem dX11_far_26 : decode cX11_far 26 = .ok (.aload_n 0, 1) := by decide +kernel
theorem dX11_far_27 : decode cX11_far 27 = .ok (.getfield 70, 3) := by decide +kernel
theorem dX11_far_30 : decode cX11_far 30 = .ok (.iload_n 2, 1) := by decide +kernel
theorem dX11_far_31 : decode cX11_far 31 = .ok (.iaload, 1) := by decide +kernel
theorem dX11_far_32 : decode cX11_far 32 = .ok (.iaload, 1) := by decide +kernel
theorem dX11_far_33 : decode cX11_far 33 = .ok (.ireturn, 1) := by decide +kernel
theorem dX11_way_0 : decode cX11_way 0 = .ok (.aload_n 0, 1) := by decide +kernel
theorem dX11_way_1 : decode cX11_way 1 = .ok (.iconst 0, 1) := by decide +kernel
theorem dX11_way_2 : decode cX11_way 2 = .ok (.putfield 1, 3) := by decide +kernel
theorem dX11_way_5 : decode cX11_way 5 = .ok (.aload_n 0, 1) := by decide +kernel
theorem dX11_way_6 : decode cX11_way 6 = .ok (.iload_n 1, 1) := by decide +kernel
theorem dX11_way_7 : decode cX11_way 7 = .ok (.iload_n 2, 1) := by decide +kernel
theorem dX11_way_8 : decode cX11_way 8 = .ok (.iload_n 3, 1) := by decide +kernel
theorem dX11_way_9 : decode cX11_way 9 = .ok (.invokevirtual 276, 3) := by decide +kernel
theorem dX11_way_12 : decode cX11_way 12 = .ok (.ifCond .ne 5, 3) := by decide +kernel
theorem dX11_way_15 : decode cX11_way 15 = .ok (.iconst (-1), 1) := by decide +kernel
theorem dX11_way_16 : decode cX11_way 16 = .ok (.ireturn, 1) := by decide +kernel
theorem dX11_way_17 : decode cX11_way 17 = .ok (.aload_n 0, 1) := by decide +kernel
theorem dX11_way_18 : decode cX11_way 18 = .ok (.iload_n 3, 1) := by decide +kernel
theorem dX11_way_19 : decode cX11_way 19 = .ok (.invokevirtual 279, 3) := by decide +kernel
theorem dX11_way_22 : decode cX11_way 22 = .ok (.aload_n 0, 1) := by decide +kernel
theorem dX11_way_23 : decode cX11_way 23 = .ok (.aload_n 0, 1) := by decide +kernel
theorem dX11_way_24 : decode cX11_way 24 = .ok (.getfield 70, 3) := by decide +kernel
theorem dX11_way_27 : decode cX11_way 27 = .ok (.iload_n 2, 1) := by decide +kernel
theorem dX11_way_28 : decode cX11_way 28 = .ok (.iaload, 1) := by decide +kernel
theorem dX11_way_29 : decode cX11_way 29 = .ok (.invokevirtual 282, 3) := by decide +kernel
theorem dX11_way_32 : decode cX11_way 32 = .ok (.iload 4, 2) := by decide +kernel
theorem dX11_way_34 : decode cX11_way 34 = .ok (.iconst 0, 1) := by decide +kernel
theorem dX11_way_35 : decode cX11_way 35 = .ok (.aload_n 0, 1) := by decide +kernel
theorem dX11_way_36 : decode cX11_way 36 = .ok (.getfield 264, 3) := by decide +kernel
theorem dX11_way_39 : decode cX11_way 39 = .ok (.iconst 1, 1) := by decide +kernel
theorem dX11_way_40 : decode cX11_way 40 = .ok (.isub, 1) := by decide +kernel
theorem dX11_way_41 : decode cX11_way 41 = .ok (.invokestatic 144, 3) := by decide +kernel
theorem dX11_way_44 : decode cX11_way 44 = .ok (.ifCond .eq 13, 3) := by decide +kernel
theorem dX11_way_47 : decode cX11_way 47 = .ok (.aload_n 0, 1) := by decide +kernel
theorem dX11_way_48 : decode cX11_way 48 = .ok (.getfield 73, 3) := by decide +kernel
theorem dX11_way_51 : decode cX11_way 51 = .ok (.iload 4, 2) := by decide +kernel
theorem dX11_way_53 : decode cX11_way 53 = .ok (.iaload, 1) := by decide +kernel
theorem dX11_way_54 : decode cX11_way 54 = .ok (.goto 4, 3) := by decide +kernel
theorem dX11_way_57 : decode cX11_way 57 = .ok (.iconst (-1), 1) := by decide +kernel
theorem dX11_way_58 : decode cX11_way 58 = .ok (.ireturn, 1) := by decide +kernel
theorem dX11_edges_0 : decode cX11_edges 0 = .ok (.aload_n 0, 1) := by decide +kernel
theorem dX11_edges_1 : decode cX11_edges 1 = .ok (.iconst 0, 1) := by decide +kernel
theorem dX11_edges_2 : decode cX11_edges 2 = .ok (.putfield 1, 3) := by decide +kernel
theorem dX11_edges_5 : decode cX11_edges 5 = .ok (.iload_n 1, 1) := by decide +kernel
theorem dX11_edges_6 : decode cX11_edges 6 = .ok (.invokestatic 165, 3) := by decide +kernel
theorem dX11_edges_9 : decode cX11_edges 9 = .ok (.ifCond .ne 5, 3) := by decide +kernel
theorem dX11_edges_12 : decode cX11_edges 12 = .ok (.iconst (-1), 1) := by decide +kernel
theorem dX11_edges_13 : decode cX11_edges 13 = .ok (.ireturn, 1) := by decide +kernel
theorem dX11_edges_14 : decode cX11_edges 14 = .ok (.aload_n 0, 1) := by decide +kernel
theorem dX11_edges_15 : decode cX11_edges 15 = .ok (.iload_n 1, 1) := by decide +kernel
theorem dX11_edges_16 : decode cX11_edges 16 = .ok (.invokevirtual 270, 3) := by decide +kernel
theorem dX11_edges_19 : decode cX11_edges 19 = .ok (.aload_n 0, 1) := by decide +kernel
theorem dX11_edges_20 : decode cX11_edges 20 = .ok (.getfield 251, 3) := by decide +kernel
theorem dX11_edges_23 : decode cX11_edges 23 = .ok (.ireturn, 1) := by decide +kernel
theorem dX11_edge_0 : decode cX11_edge 0 = .ok (.iload_n 1, 1) := by decide +kernel
theorem dX11_edge_1 : decode cX11_edge 1 = .ok (.invokestatic 165, 3) := by decide +kernel
theorem dX11_edge_4 : decode cX11_edge 4 = .ok (.ifCond .eq 16, 3) := by decide +kernel
theorem dX11_edge_7 : decode cX11_edge 7 = .ok (.iload_n 3, 1) := by decide +kernel
theorem dX11_edge_8 : decode cX11_edge 8 = .ok (.iconst 0, 1) := by decide +kernel
theorem dX11_edge_9 : decode cX11_edge 9 = .ok (.iconst 2, 1) := by decide +kernel
theorem dX11_edge_10 : decode cX11_edge 10 = .ok (.invokestatic 144, 3) := by decide +kernel
theorem dX11_edge_13 : decode cX11_edge 13 = .ok (.ifCond .eq 7, 3) := by decide +kernel
theorem dX11_edge_16 : decode cX11_edge 16 = .ok (.iconst 1, 1) := by decide +kernel
theorem dX11_edge_17 : decode cX11_edge 17 = .ok (.goto 4, 3) := by decide +kernel
theorem dX11_edge_20 : decode cX11_edge 20 = .ok (.iconst 0, 1) := by decide +kernel
theorem dX11_edge_21 : decode cX11_edge 21 = .ok (.istore 4, 2) := by decide +kernel
theorem dX11_edge_23 : decode cX11_edge 23 = .ok (.iload 4, 2) := by decide +kernel
theorem dX11_edge_25 : decode cX11_edge 25 = .ok (.ifCond .eq 8, 3) := by decide +kernel
theorem dX11_edge_28 : decode cX11_edge 28 = .ok (.aload_n 0, 1) := by decide +kernel
theorem dX11_edge_29 : decode cX11_edge 29 = .ok (.iload_n 1, 1) := by decide +kernel
theorem dX11_edge_30 : decode cX11_edge 30 = .ok (.invokevirtual 270, 3) := by decide +kernel
theorem dX11_edge_33 : decode cX11_edge 33 = .ok (.aload_n 0, 1) := by decide +kernel
theorem dX11_edge_34 : decode cX11_edge 34 = .ok (.iload 4, 2) := by decide +kernel
theorem dX11_edge_36 : decode cX11_edge 36 = .ok (.ifCond .eq 17, 3) := by decide +kernel
theorem dX11_edge_39 : decode cX11_edge 39 = .ok (.iload_n 2, 1) := by decide +kernel
theorem dX11_edge_40 : decode cX11_edge 40 = .ok (.iconst 0, 1) := by decide +kernel
theorem dX11_edge_41 : decode cX11_edge 41 = .ok (.aload_n 0, 1) := by decide +kernel
theorem dX11_edge_42 : decode cX11_edge 42 = .ok (.getfield 251, 3) := by decide +kernel
theorem dX11_edge_45 : decode cX11_edge 45 = .ok (.iconst 1, 1) := by decide +kernel
theorem dX11_edge_46 : decode cX11_edge 46 = .ok (.isub, 1) := by decide +kernel
theorem dX11_edge_47 : decode cX11_edge 47 = .ok (.invokestatic 144, 3) := by decide +kernel
theorem dX11_edge_50 : decode cX11_edge 50 = .ok (.ifCond .ne 7, 3) := by decide +kernel
theorem dX11_edge_53 : decode cX11_edge 53 = .ok (.iconst 1, 1) := by decide +kernel
theorem dX11_edge_54 : decode cX11_edge 54 = .ok (.goto 4, 3) := by decide +kernel
theorem dX11_edge_57 : decode cX11_edge 57 = .ok (.iconst 0, 1) := by decide +kernel
theorem dX11_edge_58 : decode cX11_edge 58 = .ok (.invokevirtual 285, 3) := by decide +kernel
theorem dX11_edge_61 : decode cX11_edge 61 = .ok (.ifCond .eq 5, 3) := by decide +kernel
theorem dX11_edge_64 : decode cX11_edge 64 = .ok (.iconst 0, 1) := by decide +kernel
theorem dX11_edge_65 : decode cX11_edge 65 = .ok (.ireturn, 1) := by decide +kernel
theorem dX11_edge_66 : decode cX11_edge 66 = .ok (.iload_n 3, 1) := by decide +kernel
theorem dX11_edge_67 : decode cX11_edge 67 = .ok (.ifCond .ne 12, 3) := by decide +kernel
theorem dX11_edge_70 : decode cX11_edge 70 = .ok (.aload_n 0, 1) := by decide +kernel
theorem dX11_edge_71 : decode cX11_edge 71 = .ok (.getfield 58, 3) := by decide +kernel
theorem dX11_edge_74 : decode cX11_edge 74 = .ok (.iload_n 2, 1) := by decide +kernel
theorem dX11_edge_75 : decode cX11_edge 75 = .ok (.iaload, 1) := by decide +kernel
theorem dX11_edge_76 : decode cX11_edge 76 = .ok (.goto 40, 3) := by decide +kernel
theorem dX11_edge_79 : decode cX11_edge 79 = .ok (.iload_n 3, 1) := by decide +kernel
theorem dX11_edge_80 : decode cX11_edge 80 = .ok (.iconst 2, 1) := by decide +kernel
theorem dX11_edge_81 : decode cX11_edge 81 = .ok (.if_icmp .ne 12, 3) := by decide +kernel
theorem dX11_edge_84 : decode cX11_edge 84 = .ok (.aload_n 0, 1) := by decide +kernel
theorem dX11_edge_85 : decode cX11_edge 85 = .ok (.getfield 64, 3) := by decide +kernel
theorem dX11_edge_88 : decode cX11_edge 88 = .ok (.iload_n 2, 1) := by decide +kernel
theorem dX11_edge_89 : decode cX11_edge 89 = .ok (.iaload, 1) := by decide +kernel
theorem dX11_edge_90 : decode cX11_edge 90 = .ok (.goto 26, 3) := by decide +kernel
theorem dX11_edge_93 : decode cX11_edge 93 = .ok (.aload_n 0, 1) := by decide +kernel
theorem dX11_edge_94 : decode cX11_edge 94 = .ok (.getfield 61, 3) := by decide +kernel
theorem dX11_edge_97 : decode cX11_edge 97 = .ok (.iload_n 2, 1) := by decide +kernel
theorem dX11_edge_98 : decode cX11_edge 98 = .ok (.iaload, 1) := by decide +kernel
theorem dX11_edge_99 : decode cX11_edge 99 = .ok (.aload_n 0, 1) := by decide +kernel
theorem dX11_edge_100 : decode cX11_edge 100 = .ok (.getfield 254, 3) := by decide +kernel
theorem dX11_edge_103 : decode cX11_edge 103 = .ok (.if_icmp .ne 7, 3) := by decide +kernel
theorem dX11_edge_106 : decode cX11_edge 106 = .ok (.iconst (-1), 1) := by decide +kernel
theorem dX11_edge_107 : decode cX11_edge 107 = .ok (.goto 9, 3) := by decide +kernel
theorem dX11_edge_110 : decode cX11_edge 110 = .ok (.aload_n 0, 1) := by decide +kernel
theorem dX11_edge_111 : decode cX11_edge 111 = .ok (.getfield 61, 3) := by decide +kernel
theorem dX11_edge_114 : decode cX11_edge 114 = .ok (.iload_n 2, 1) := by decide +kernel
theorem dX11_edge_115 : decode cX11_edge 115 = .ok (.iaload, 1) := by decide +kernel
theorem dX11_edge_116 : decode cX11_edge 116 = .ok (.ireturn, 1) := by decide +kernel
theorem dX11_pairs_0 : decode cX11_pairs 0 = .ok (.aload_n 0, 1) := by decide +kernel
theorem dX11_pairs_1 : decode cX11_pairs 1 = .ok (.iload_n 1, 1) := by decide +kernel
theorem dX11_pairs_2 : decode cX11_pairs 2 = .ok (.invokevirtual 270, 3) := by decide +kernel
theorem dX11_pairs_5 : decode cX11_pairs 5 = .ok (.aload_n 0, 1) := by decide +kernel
theorem dX11_pairs_6 : decode cX11_pairs 6 = .ok (.getfield 257, 3) := by decide +kernel
theorem dX11_pairs_9 : decode cX11_pairs 9 = .ok (.bipush 14, 2) := by decide +kernel
theorem dX11_pairs_11 : decode cX11_pairs 11 = .ok (.if_icmp .le 5, 3) := by decide +kernel
theorem dX11_pairs_14 : decode cX11_pairs 14 = .ok (.iconst 0, 1) := by decide +kernel
theorem dX11_pairs_15 : decode cX11_pairs 15 = .ok (.ireturn, 1) := by decide +kernel
theorem dX11_pairs_16 : decode cX11_pairs 16 = .ok (.iconst (-1), 1) := by decide +kernel
theorem dX11_pairs_17 : decode cX11_pairs 17 = .ok (.istore_n 2, 1) := by decide +kernel
theorem dX11_pairs_18 : decode cX11_pairs 18 = .ok (.iload_n 2, 1) := by decide +kernel
theorem dX11_pairs_19 : decode cX11_pairs 19 = .ok (.aload_n 0, 1) := by decide +kernel
theorem dX11_pairs_20 : decode cX11_pairs 20 = .ok (.getfield 257, 3) := by decide +kernel
theorem dX11_pairs_23 : decode cX11_pairs 23 = .ok (.if_icmp .ge 54, 3) := by decide +kernel
theorem dX11_pairs_26 : decode cX11_pairs 26 = .ok (.aload_n 0, 1) := by decide +kernel
theorem dX11_pairs_27 : decode cX11_pairs 27 = .ok (.iload_n 2, 1) := by decide +kernel
theorem dX11_pairs_28 : decode cX11_pairs 28 = .ok (.invokevirtual 279, 3) := by decide +kernel
theorem dX11_pairs_31 : decode cX11_pairs 31 = .ok (.iconst 0, 1) := by decide +kernel
theorem dX11_pairs_32 : decode cX11_pairs 32 = .ok (.istore_n 3, 1) := by decide +kernel
theorem dX11_pairs_33 : decode cX11_pairs 33 = .ok (.iload_n 3, 1) := by decide +kernel
theorem dX11_pairs_34 : decode cX11_pairs 34 = .ok (.aload_n 0, 1) := by decide +kernel
theorem dX11_pairs_35 : decode cX11_pairs 35 = .ok (.getfield 257, 3) := by decide +kernel
theorem dX11_pairs_38 : decode cX11_pairs 38 = .ok (.if_icmp .ge 33, 3) := by decide +kernel
theorem dX11_pairs_41 : decode cX11_pairs 41 = .ok (.aload_n 0, 1) := by decide +kernel
theorem dX11_pairs_42 : decode cX11_pairs 42 = .ok (.getfield 82, 3) := by decide +kernel
theorem dX11_pairs_45 : decode cX11_pairs 45 = .ok (.bipush 15, 2) := by decide +kernel
theorem dX11_pairs_47 : decode cX11_pairs 47 = .ok (.iload_n 3, 1) := by decide +kernel
theorem dX11_pairs_48 : decode cX11_pairs 48 = .ok (.imul, 1) := by decide +kernel
theorem dX11_pairs_49 : decode cX11_pairs 49 = .ok (.iload_n 2, 1) := by decide +kernel
theorem dX11_pairs_50 : decode cX11_pairs 50 = .ok (.iadd, 1) := by decide +kernel
theorem dX11_pairs_51 : decode cX11_pairs 51 = .ok (.iconst 1, 1) := by decide +kernel
theorem dX11_pairs_52 : decode cX11_pairs 52 = .ok (.iadd, 1) := by decide +kernel
theorem dX11_pairs_53 : decode cX11_pairs 53 = .ok (.aload_n 0, 1) := by decide +kernel
theorem dX11_pairs_54 : decode cX11_pairs 54 = .ok (.getfield 67, 3) := by decide +kernel
theorem dX11_pairs_57 : decode cX11_pairs 57 = .ok (.aload_n 0, 1) := by decide +kernel
theorem dX11_pairs_58 : decode cX11_pairs 58 = .ok (.getfield 70, 3) := by decide +kernel
theorem dX11_pairs_61 : decode cX11_pairs 61 = .ok (.iload_n 3, 1) := by decide +kernel
theorem dX11_pairs_62 : decode cX11_pairs 62 = .ok (.iaload, 1) := by decide +kernel
theorem dX11_pairs_63 : decode cX11_pairs 63 = .ok (.iaload, 1) := by decide +kernel
theorem dX11_pairs_64 : decode cX11_pairs 64 = .ok (.iastore, 1) := by decide +kernel
theorem dX11_pairs_65 : decode cX11_pairs 65 = .ok (.iinc 3 1, 3) := by decide +kernel
theorem dX11_pairs_68 : decode cX11_pairs 68 = .ok (.goto (-35), 3) := by decide +kernel
theorem dX11_pairs_71 : decode cX11_pairs 71 = .ok (.iinc 2 1, 3) := by decide +kernel
theorem dX11_pairs_74 : decode cX11_pairs 74 = .ok (.goto (-56), 3) := by decide +kernel
theorem dX11_pairs_77 : decode cX11_pairs 77 = .ok (.aload_n 0, 1) := by decide +kernel
theorem dX11_pairs_78 : decode cX11_pairs 78 = .ok (.getfield 76, 3) := by decide +kernel
theorem dX11_pairs_81 : decode cX11_pairs 81 = .ok (.iconst 0, 1) := by decide +kernel
theorem dX11_pairs_82 : decode cX11_pairs 82 = .ok (.iconst 0, 1) := by decide +kernel
theorem dX11_pairs_83 : decode cX11_pairs 83 = .ok (.iastore, 1) := by decide +kernel
theorem dX11_pairs_84 : decode cX11_pairs 84 = .ok (.aload_n 0, 1) := by decide +kernel
theorem dX11_pairs_85 : decode cX11_pairs 85 = .ok (.getfield 79, 3) := by decide +kernel
theorem dX11_pairs_88 : decode cX11_pairs 88 = .ok (.iconst 0, 1) := by decide +kernel
theorem dX11_pairs_89 : decode cX11_pairs 89 = .ok (.iconst 1, 1) := by decide +kernel
theorem dX11_pairs_90 : decode cX11_pairs 90 = .ok (.iastore, 1) := by decide +kernel
theorem dX11_pairs_91 : decode cX11_pairs 91 = .ok (.iconst 1, 1) := by decide +kernel
theorem dX11_pairs_92 : decode cX11_pairs 92 = .ok (.istore_n 2, 1) := by decide +kernel
theorem dX11_pairs_93 : decode cX11_pairs 93 = .ok (.iload_n 2, 1) := by decide +kernel
theorem dX11_pairs_94 : decode cX11_pairs 94 = .ok (.iconst 1, 1) := by decide +kernel
theorem dX11_pairs_95 : decode cX11_pairs 95 = .ok (.aload_n 0, 1) := by decide +kernel
theorem dX11_pairs_96 : decode cX11_pairs 96 = .ok (.getfield 257, 3) := by decide +kernel
theorem dX11_pairs_99 : decode cX11_pairs 99 = .ok (.ishl, 1) := by decide +kernel
theorem dX11_pairs_100 : decode cX11_pairs 100 = .ok (.if_icmp .ge 14, 3) := by decide +kernel
theorem dX11_pairs_103 : decode cX11_pairs 103 = .ok (.aload_n 0, 1) := by decide +kernel
theorem dX11_pairs_104 : decode cX11_pairs 104 = .ok (.iload_n 2, 1) := by decide +kernel
theorem dX11_pairs_105 : decode cX11_pairs 105 = .ok (.invokevirtual 289, 3) := by decide +kernel
theorem dX11_pairs_108 : decode cX11_pairs 108 = .ok (.iinc 2 1, 3) := by decide +kernel
theorem dX11_pairs_111 : decode cX11_pairs 111 = .ok (.goto (-18), 3) := by decide +kernel
theorem dX11_pairs_114 : decode cX11_pairs 114 = .ok (.iconst 1, 1) := by decide +kernel
theorem dX11_pairs_115 : decode cX11_pairs 115 = .ok (.ireturn, 1) := by decide +kernel
theorem dX11_lowest_0 : decode cX11_lowest 0 = .ok (.iconst 0, 1) := by decide +kernel
theorem dX11_lowest_1 : decode cX11_lowest 1 = .ok (.istore_n 1, 1) := by decide +kernel
theorem dX11_lowest_2 : decode cX11_lowest 2 = .ok (.iload_n 0, 1) := by decide +kernel
theorem dX11_lowest_3 : decode cX11_lowest 3 = .ok (.iload_n 1, 1) := by decide +kernel
theorem dX11_lowest_4 : decode cX11_lowest 4 = .ok (.invokestatic 161, 3) := by decide +kernel
theorem dX11_lowest_7 : decode cX11_lowest 7 = .ok (.ifCond .ne 9, 3) := by decide +kernel
theorem dX11_lowest_10 : decode cX11_lowest 10 = .ok (.iinc 1 1, 3) := by decide +kernel
theorem dX11_lowest_13 : decode cX11_lowest 13 = .ok (.goto (-11), 3) := by decide +kernel
theorem dX11_lowest_16 : decode cX11_lowest 16 = .ok (.iload_n 1, 1) := by decide +kernel
theorem dX11_lowest_17 : decode cX11_lowest 17 = .ok (.ireturn, 1) := by decide +kernel
theorem dX11_costOf_0 : decode cX11_costOf 0 = .ok (.aload_n 0, 1) := by decide +kernel
theorem dX11_costOf_1 : decode cX11_costOf 1 = .ok (.getfield 82, 3) := by decide +kernel
theorem dX11_costOf_4 : decode cX11_costOf 4 = .ok (.bipush 15, 2) := by decide +kernel
theorem dX11_costOf_6 : decode cX11_costOf 6 = .ok (.iload_n 2, 1) := by decide +kernel
theorem dX11_costOf_7 : decode cX11_costOf 7 = .ok (.imul, 1) := by decide +kernel
theorem dX11_costOf_8 : decode cX11_costOf 8 = .ok (.iload_n 3, 1) := by decide +kernel
theorem dX11_costOf_9 : decode cX11_costOf 9 = .ok (.iadd, 1) := by decide +kernel
theorem dX11_costOf_10 : decode cX11_costOf 10 = .ok (.iconst 1, 1) := by decide +kernel
theorem dX11_costOf_11 : decode cX11_costOf 11 = .ok (.iadd, 1) := by decide +kernel
theorem dX11_costOf_12 : decode cX11_costOf 12 = .ok (.iaload, 1) := by decide +kernel
theorem dX11_costOf_13 : decode cX11_costOf 13 = .ok (.aload_n 0, 1) := by decide +kernel
theorem dX11_costOf_14 : decode cX11_costOf 14 = .ok (.getfield 76, 3) := by decide +kernel
theorem dX11_costOf_17 : decode cX11_costOf 17 = .ok (.iload_n 1, 1) := by decide +kernel
theorem dX11_costOf_18 : decode cX11_costOf 18 = .ok (.iconst 1, 1) := by decide +kernel
theorem dX11_costOf_19 : decode cX11_costOf 19 = .ok (.iload_n 2, 1) := by decide +kernel
theorem dX11_costOf_20 : decode cX11_costOf 20 = .ok (.ishl, 1) := by decide +kernel
theorem dX11_costOf_21 : decode cX11_costOf 21 = .ok (.iconst (-1), 1) := by decide +kernel
theorem dX11_costOf_22 : decode cX11_costOf 22 = .ok (.ixor, 1) := by decide +kernel
theorem dX11_costOf_23 : decode cX11_costOf 23 = .ok (.iand, 1) := by decide +kernel
theorem dX11_costOf_24 : decode cX11_costOf 24 = .ok (.iload_n 3, 1) := by decide +kernel
theorem dX11_costOf_25 : decode cX11_costOf 25 = .ok (.ifCond .ge 7, 3) := by decide +kernel
theorem dX11_costOf_28 : decode cX11_costOf 28 = .ok (.iconst 0, 1) := by decide +kernel
theorem dX11_costOf_29 : decode cX11_costOf 29 = .ok (.goto 6, 3) := by decide +kernel
theorem dX11_costOf_32 : decode cX11_costOf 32 = .ok (.iconst 1, 1) := by decide +kernel
theorem dX11_costOf_33 : decode cX11_costOf 33 = .ok (.iload_n 3, 1) := by decide +kernel
theorem dX11_costOf_34 : decode cX11_costOf 34 = .ok (.ishl, 1) := by decide +kernel
theorem dX11_costOf_35 : decode cX11_costOf 35 = .ok (.iconst (-1), 1) := by decide +kernel
theorem dX11_costOf_36 : decode cX11_costOf 36 = .ok (.ixor, 1) := by decide +kernel
theorem dX11_costOf_37 : decode cX11_costOf 37 = .ok (.iand, 1) := by decide +kernel
theorem dX11_costOf_38 : decode cX11_costOf 38 = .ok (.iaload, 1) := by decide +kernel
theorem dX11_costOf_39 : decode cX11_costOf 39 = .ok (.iadd, 1) := by decide +kernel
theorem dX11_costOf_40 : decode cX11_costOf 40 = .ok (.ireturn, 1) := by decide +kernel
theorem dX11_best_0 : decode cX11_best 0 = .ok (.iload_n 1, 1) := by decide +kernel
theorem dX11_best_1 : decode cX11_best 1 = .ok (.invokestatic 292, 3) := by decide +kernel
theorem dX11_best_4 : decode cX11_best 4 = .ok (.istore_n 2, 1) := by decide +kernel
theorem dX11_best_5 : decode cX11_best 5 = .ok (.aload_n 0, 1) := by decide +kernel
theorem dX11_best_6 : decode cX11_best 6 = .ok (.getfield 76, 3) := by decide +kernel
theorem dX11_best_9 : decode cX11_best 9 = .ok (.iload_n 1, 1) := by decide +kernel
theorem dX11_best_10 : decode cX11_best 10 = .ok (.ldc_w 263, 3) := by decide +kernel
theorem dX11_best_13 : decode cX11_best 13 = .ok (.iastore, 1) := by decide +kernel
theorem dX11_best_14 : decode cX11_best 14 = .ok (.aload_n 0, 1) := by decide +kernel
theorem dX11_best_15 : decode cX11_best 15 = .ok (.getfield 79, 3) := by decide +kernel
theorem dX11_best_18 : decode cX11_best 18 = .ok (.iload_n 1, 1) := by decide +kernel
theorem dX11_best_19 : decode cX11_best 19 = .ok (.iconst 0, 1) := by decide +kernel
theorem dX11_best_20 : decode cX11_best 20 = .ok (.iastore, 1) := by decide +kernel
theorem dX11_best_21 : decode cX11_best 21 = .ok (.iconst (-1), 1) := by decide +kernel
theorem dX11_best_22 : decode cX11_best 22 = .ok (.istore_n 3, 1) := by decide +kernel
theorem dX11_best_23 : decode cX11_best 23 = .ok (.iload_n 3, 1) := by decide +kernel
theorem dX11_best_24 : decode cX11_best 24 = .ok (.aload_n 0, 1) := by decide +kernel
theorem dX11_best_25 : decode cX11_best 25 = .ok (.getfield 257, 3) := by decide +kernel
theorem dX11_best_28 : decode cX11_best 28 = .ok (.if_icmp .ge 118, 3) := by decide +kernel
theorem dX11_best_31 : decode cX11_best 31 = .ok (.iload_n 3, 1) := by decide +kernel
theorem dX11_best_32 : decode cX11_best 32 = .ok (.ifCond .lt 19, 3) := by decide +kernel
theorem dX11_best_35 : decode cX11_best 35 = .ok (.iload_n 3, 1) := by decide +kernel
theorem dX11_best_36 : decode cX11_best 36 = .ok (.iload_n 2, 1) := by decide +kernel
theorem dX11_best_37 : decode cX11_best 37 = .ok (.if_icmp .eq 103, 3) := by decide +kernel
theorem dX11_best_40 : decode cX11_best 40 = .ok (.iload_n 1, 1) := by decide +kernel
theorem dX11_best_41 : decode cX11_best 41 = .ok (.iload_n 3, 1) := by decide +kernel
theorem dX11_best_42 : decode cX11_best 42 = .ok (.invokestatic 161, 3) := by decide +kernel
theorem dX11_best_45 : decode cX11_best 45 = .ok (.ifCond .ne 6, 3) := by decide +kernel
theorem dX11_best_48 : decode cX11_best 48 = .ok (.goto 92, 3) := by decide +kernel
theorem dX11_best_51 : decode cX11_best 51 = .ok (.aload_n 0, 1) := by decide +kernel
theorem dX11_best_52 : decode cX11_best 52 = .ok (.iload_n 1, 1) := by decide +kernel
theorem dX11_best_53 : decode cX11_best 53 = .ok (.iload_n 2, 1) := by decide +kernel
theorem dX11_best_54 : decode cX11_best 54 = .ok (.iload_n 3, 1) := by decide +kernel
theorem dX11_best_55 : decode cX11_best 55 = .ok (.invokevirtual 295, 3) := by decide +kernel
theorem dX11_best_58 : decode cX11_best 58 = .ok (.istore 4, 2) := by decide +kernel
theorem dX11_best_60 : decode cX11_best 60 = .ok (.aload_n 0, 1) := by decide +kernel
theorem dX11_best_61 : decode cX11_best 61 = .ok (.getfield 79, 3) := by decide +kernel
theorem dX11_best_64 : decode cX11_best 64 = .ok (.iload_n 1, 1) := by decide +kernel
theorem dX11_best_65 : decode cX11_best 65 = .ok (.iconst 1, 1) := by decide +kernel
theorem dX11_best_66 : decode cX11_best 66 = .ok (.iload_n 2, 1) := by decide +kernel
theorem dX11_best_67 : decode cX11_best 67 = .ok (.ishl, 1) := by decide +kernel
theorem dX11_best_68 : decode cX11_best 68 = .ok (.iconst (-1), 1) := by decide +kernel
theorem dX11_best_69 : decode cX11_best 69 = .ok (.ixor, 1) := by decide +kernel
theorem dX11_best_70 : decode cX11_best 70 = .ok (.iand, 1) := by decide +kernel
theorem dX11_best_71 : decode cX11_best 71 = .ok (.iload_n 3, 1) := by decide +kernel
theorem dX11_best_72 : decode cX11_best 72 = .ok (.ifCond .ge 7, 3) := by decide +kernel
theorem dX11_best_75 : decode cX11_best 75 = .ok (.iconst 0, 1) := by decide +kernel
theorem dX11_best_76 : decode cX11_best 76 = .ok (.goto 6, 3) := by decide +kernel
theorem dX11_best_79 : decode cX11_best 79 = .ok (.iconst 1, 1) := by decide +kernel
theorem dX11_best_80 : decode cX11_best 80 = .ok (.iload_n 3, 1) := by decide +kernel
theorem dX11_best_81 : decode cX11_best 81 = .ok (.ishl, 1) := by decide +kernel
theorem dX11_best_82 : decode cX11_best 82 = .ok (.iconst (-1), 1) := by decide +kernel
theorem dX11_best_83 : decode cX11_best 83 = .ok (.ixor, 1) := by decide +kernel
theorem dX11_best_84 : decode cX11_best 84 = .ok (.iand, 1) := by decide +kernel
theorem dX11_best_85 : decode cX11_best 85 = .ok (.iaload, 1) := by decide +kernel
theorem dX11_best_86 : decode cX11_best 86 = .ok (.istore 5, 2) := by decide +kernel
theorem dX11_best_88 : decode cX11_best 88 = .ok (.iload 4, 2) := by decide +kernel
theorem dX11_best_90 : decode cX11_best 90 = .ok (.aload_n 0, 1) := by decide +kernel
theorem dX11_best_91 : decode cX11_best 91 = .ok (.getfield 76, 3) := by decide +kernel
theorem dX11_best_94 : decode cX11_best 94 = .ok (.iload_n 1, 1) := by decide +kernel
theorem dX11_best_95 : decode cX11_best 95 = .ok (.iaload, 1) := by decide +kernel
theorem dX11_best_96 : decode cX11_best 96 = .ok (.if_icmp .ge 22, 3) := by decide +kernel
theorem dX11_best_99 : decode cX11_best 99 = .ok (.aload_n 0, 1) := by decide +kernel
theorem dX11_best_100 : decode cX11_best 100 = .ok (.getfield 76, 3) := by decide +kernel
theorem dX11_best_103 : decode cX11_best 103 = .ok (.iload_n 1, 1) := by decide +kernel
theorem dX11_best_104 : decode cX11_best 104 = .ok (.iload 4, 2) := by decide +kernel
theorem dX11_best_106 : decode cX11_best 106 = .ok (.iastore, 1) := by decide +kernel
theorem dX11_best_107 : decode cX11_best 107 = .ok (.aload_n 0, 1) := by decide +kernel
theorem dX11_best_108 : decode cX11_best 108 = .ok (.getfield 79, 3) := by decide +kernel
theorem dX11_best_111 : decode cX11_best 111 = .ok (.iload_n 1, 1) := by decide +kernel
theorem dX11_best_112 : decode cX11_best 112 = .ok (.iload 5, 2) := by decide +kernel
theorem dX11_best_114 : decode cX11_best 114 = .ok (.iastore, 1) := by decide +kernel
theorem dX11_best_115 : decode cX11_best 115 = .ok (.goto 25, 3) := by decide +kernel
theorem dX11_best_118 : decode cX11_best 118 = .ok (.iload 4, 2) := by decide +kernel
theorem dX11_best_120 : decode cX11_best 120 = .ok (.aload_n 0, 1) := by decide +kernel
theorem dX11_best_121 : decode cX11_best 121 = .ok (.getfield 76, 3) := by decide +kernel
theorem dX11_best_124 : decode cX11_best 124 = .ok (.iload_n 1, 1) := by decide +kernel
theorem dX11_best_125 : decode cX11_best 125 = .ok (.iaload, 1) := by decide +kernel
theorem dX11_best_126 : decode cX11_best 126 = .ok (.if_icmp .ne 14, 3) := by decide +kernel
theorem dX11_best_129 : decode cX11_best 129 = .ok (.aload_n 0, 1) := by decide +kernel
theorem dX11_best_130 : decode cX11_best 130 = .ok (.getfield 79, 3) := by decide +kernel
theorem dX11_best_133 : decode cX11_best 133 = .ok (.iload_n 1, 1) := by decide +kernel
theorem dX11_best_134 : decode cX11_best 134 = .ok (.dup2, 1) := by decide +kernel
theorem dX11_best_135 : decode cX11_best 135 = .ok (.iaload, 1) := by decide +kernel
theorem dX11_best_136 : decode cX11_best 136 = .ok (.iload 5, 2) := by decide +kernel
theorem dX11_best_138 : decode cX11_best 138 = .ok (.iadd, 1) := by decide +kernel
theorem dX11_best_139 : decode cX11_best 139 = .ok (.iastore, 1) := by decide +kernel
theorem dX11_best_140 : decode cX11_best 140 = .ok (.iinc 3 1, 3) := by decide +kernel
theorem dX11_best_143 : decode cX11_best 143 = .ok (.goto (-120), 3) := by decide +kernel
theorem dX11_best_146 : decode cX11_best 146 = .ok (.return_, 1) := by decide +kernel
theorem dX11_chooses_0 : decode cX11_chooses 0 = .ok (.iconst 1, 1) := by decide +kernel
theorem dX11_chooses_1 : decode cX11_chooses 1 = .ok (.aload_n 0, 1) := by decide +kernel
theorem dX11_chooses_2 : decode cX11_chooses 2 = .ok (.getfield 257, 3) := by decide +kernel
theorem dX11_chooses_5 : decode cX11_chooses 5 = .ok (.ishl, 1) := by decide +kernel
theorem dX11_chooses_6 : decode cX11_chooses 6 = .ok (.iconst 1, 1) := by decide +kernel
theorem dX11_chooses_7 : decode cX11_chooses 7 = .ok (.isub, 1) := by decide +kernel
theorem dX11_chooses_8 : decode cX11_chooses 8 = .ok (.istore_n 1, 1) := by decide +kernel
theorem dX11_chooses_9 : decode cX11_chooses 9 = .ok (.iload_n 1, 1) := by decide +kernel
theorem dX11_chooses_10 : decode cX11_chooses 10 = .ok (.ifCond .eq 102, 3) := by decide +kernel
theorem dX11_chooses_13 : decode cX11_chooses 13 = .ok (.iload_n 1, 1) := by decide +kernel
theorem dX11_chooses_14 : decode cX11_chooses 14 = .ok (.invokestatic 292, 3) := by decide +kernel
theorem dX11_chooses_17 : decode cX11_chooses 17 = .ok (.istore_n 2, 1) := by decide +kernel
theorem dX11_chooses_18 : decode cX11_chooses 18 = .ok (.iload_n 2, 1) := by decide +kernel
theorem dX11_chooses_19 : decode cX11_chooses 19 = .ok (.iconst 1, 1) := by decide +kernel
theorem dX11_chooses_20 : decode cX11_chooses 20 = .ok (.iadd, 1) := by decide +kernel
theorem dX11_chooses_21 : decode cX11_chooses 21 = .ok (.istore_n 3, 1) := by decide +kernel
theorem dX11_chooses_22 : decode cX11_chooses 22 = .ok (.iload_n 3, 1) := by decide +kernel
theorem dX11_chooses_23 : decode cX11_chooses 23 = .ok (.aload_n 0, 1) := by decide +kernel
theorem dX11_chooses_24 : decode cX11_chooses 24 = .ok (.getfield 257, 3) := by decide +kernel
theorem dX11_chooses_27 : decode cX11_chooses 27 = .ok (.if_icmp .ge 33, 3) := by decide +kernel
theorem dX11_chooses_30 : decode cX11_chooses 30 = .ok (.iload_n 1, 1) := by decide +kernel
theorem dX11_chooses_31 : decode cX11_chooses 31 = .ok (.iload_n 3, 1) := by decide +kernel
theorem dX11_chooses_32 : decode cX11_chooses 32 = .ok (.invokestatic 161, 3) := by decide +kernel
theorem dX11_chooses_35 : decode cX11_chooses 35 = .ok (.ifCond .eq 19, 3) := by decide +kernel
theorem dX11_chooses_38 : decode cX11_chooses 38 = .ok (.aload_n 0, 1) := by decide +kernel
theorem dX11_chooses_39 : decode cX11_chooses 39 = .ok (.iload_n 1, 1) := by decide +kernel
theorem dX11_chooses_40 : decode cX11_chooses 40 = .ok (.iload_n 2, 1) := by decide +kernel
theorem dX11_chooses_41 : decode cX11_chooses 41 = .ok (.iload_n 3, 1) := by decide +kernel
theorem dX11_chooses_42 : decode cX11_chooses 42 = .ok (.invokevirtual 295, 3) := by decide +kernel
theorem dX11_chooses_45 : decode cX11_chooses 45 = .ok (.aload_n 0, 1) := by decide +kernel
theorem dX11_chooses_46 : decode cX11_chooses 46 = .ok (.getfield 76, 3) := by decide +kernel
theorem dX11_chooses_49 : decode cX11_chooses 49 = .ok (.iload_n 1, 1) := by decide +kernel
theorem dX11_chooses_50 : decode cX11_chooses 50 = .ok (.iaload, 1) := by decide +kernel
theorem dX11_chooses_51 : decode cX11_chooses 51 = .ok (.if_icmp .eq 9, 3) := by decide +kernel
theorem dX11_chooses_54 : decode cX11_chooses 54 = .ok (.iinc 3 1, 3) := by decide +kernel
theorem dX11_chooses_57 : decode cX11_chooses 57 = .ok (.goto (-35), 3) := by decide +kernel
theorem dX11_chooses_60 : decode cX11_chooses 60 = .ok (.iload_n 1, 1) := by decide +kernel
theorem dX11_chooses_61 : decode cX11_chooses 61 = .ok (.iconst 1, 1) := by decide +kernel
theorem dX11_chooses_62 : decode cX11_chooses 62 = .ok (.iload_n 2, 1) := by decide +kernel
theorem dX11_chooses_63 : decode cX11_chooses 63 = .ok (.ishl, 1) := by decide +kernel
theorem dX11_chooses_64 : decode cX11_chooses 64 = .ok (.iconst (-1), 1) := by decide +kernel
theorem dX11_chooses_65 : decode cX11_chooses 65 = .ok (.ixor, 1) := by decide +kernel
theorem dX11_chooses_66 : decode cX11_chooses 66 = .ok (.iand, 1) := by decide +kernel
theorem dX11_chooses_67 : decode cX11_chooses 67 = .ok (.istore_n 1, 1) := by decide +kernel
theorem dX11_chooses_68 : decode cX11_chooses 68 = .ok (.aload_n 0, 1) := by decide +kernel
theorem dX11_chooses_69 : decode cX11_chooses 69 = .ok (.getfield 85, 3) := by decide +kernel
theorem dX11_chooses_72 : decode cX11_chooses 72 = .ok (.iload_n 2, 1) := by decide +kernel
theorem dX11_chooses_73 : decode cX11_chooses 73 = .ok (.bipush (-2), 2) := by decide +kernel
theorem dX11_chooses_75 : decode cX11_chooses 75 = .ok (.iastore, 1) := by decide +kernel
theorem dX11_chooses_76 : decode cX11_chooses 76 = .ok (.iload_n 3, 1) := by decide +kernel
theorem dX11_chooses_77 : decode cX11_chooses 77 = .ok (.aload_n 0, 1) := by decide +kernel
theorem dX11_chooses_78 : decode cX11_chooses 78 = .ok (.getfield 257, 3) := by decide +kernel
theorem dX11_chooses_81 : decode cX11_chooses 81 = .ok (.if_icmp .ne 6, 3) := by decide +kernel
theorem dX11_chooses_84 : decode cX11_chooses 84 = .ok (.goto (-75), 3) := by decide +kernel
theorem dX11_chooses_87 : decode cX11_chooses 87 = .ok (.aload_n 0, 1) := by decide +kernel
theorem dX11_chooses_88 : decode cX11_chooses 88 = .ok (.getfield 85, 3) := by decide +kernel
theorem dX11_chooses_91 : decode cX11_chooses 91 = .ok (.iload_n 2, 1) := by decide +kernel
theorem dX11_chooses_92 : decode cX11_chooses 92 = .ok (.iload_n 3, 1) := by decide +kernel
theorem dX11_chooses_93 : decode cX11_chooses 93 = .ok (.iastore, 1) := by decide +kernel
theorem dX11_chooses_94 : decode cX11_chooses 94 = .ok (.aload_n 0, 1) := by decide +kernel
theorem dX11_chooses_95 : decode cX11_chooses 95 = .ok (.getfield 85, 3) := by decide +kernel
theorem dX11_chooses_98 : decode cX11_chooses 98 = .ok (.iload_n 3, 1) := by decide +kernel
theorem dX11_chooses_99 : decode cX11_chooses 99 = .ok (.iload_n 2, 1) := by decide +kernel
theorem dX11_chooses_100 : decode cX11_chooses 100 = .ok (.iastore, 1) := by decide +kernel
theorem dX11_chooses_101 : decode cX11_chooses 101 = .ok (.iload_n 1, 1) := by decide +kernel
theorem dX11_chooses_102 : decode cX11_chooses 102 = .ok (.iconst 1, 1) := by decide +kernel
theorem dX11_chooses_103 : decode cX11_chooses 103 = .ok (.iload_n 3, 1) := by decide +kernel
theorem dX11_chooses_104 : decode cX11_chooses 104 = .ok (.ishl, 1) := by decide +kernel
theorem dX11_chooses_105 : decode cX11_chooses 105 = .ok (.iconst (-1), 1) := by decide +kernel
theorem dX11_chooses_106 : decode cX11_chooses 106 = .ok (.ixor, 1) := by decide +kernel
theorem dX11_chooses_107 : decode cX11_chooses 107 = .ok (.iand, 1) := by decide +kernel
theorem dX11_chooses_108 : decode cX11_chooses 108 = .ok (.istore_n 1, 1) := by decide +kernel
theorem dX11_chooses_109 : decode cX11_chooses 109 = .ok (.goto (-100), 3) := by decide +kernel
theorem dX11_chooses_112 : decode cX11_chooses 112 = .ok (.return_, 1) := by decide +kernel
theorem dX11_pair_0 : decode cX11_pair 0 = .ok (.aload_n 0, 1) := by decide +kernel
theorem dX11_pair_1 : decode cX11_pair 1 = .ok (.iconst 0, 1) := by decide +kernel
theorem dX11_pair_2 : decode cX11_pair 2 = .ok (.putfield 1, 3) := by decide +kernel
theorem dX11_pair_5 : decode cX11_pair 5 = .ok (.iload_n 1, 1) := by decide +kernel
theorem dX11_pair_6 : decode cX11_pair 6 = .ok (.invokestatic 165, 3) := by decide +kernel
theorem dX11_pair_9 : decode cX11_pair 9 = .ok (.ifCond .eq 11, 3) := by decide +kernel
theorem dX11_pair_12 : decode cX11_pair 12 = .ok (.aload_n 0, 1) := by decide +kernel
theorem dX11_pair_13 : decode cX11_pair 13 = .ok (.iload_n 1, 1) := by decide +kernel
theorem dX11_pair_14 : decode cX11_pair 14 = .ok (.invokevirtual 299, 3) := by decide +kernel
theorem dX11_pair_17 : decode cX11_pair 17 = .ok (.ifCond .ne 5, 3) := by decide +kernel
theorem dX11_pair_20 : decode cX11_pair 20 = .ok (.iconst (-1), 1) := by decide +kernel
theorem dX11_pair_21 : decode cX11_pair 21 = .ok (.ireturn, 1) := by decide +kernel
theorem dX11_pair_22 : decode cX11_pair 22 = .ok (.aload_n 0, 1) := by decide +kernel
theorem dX11_pair_23 : decode cX11_pair 23 = .ok (.invokevirtual 302, 3) := by decide +kernel
theorem dX11_pair_26 : decode cX11_pair 26 = .ok (.aload_n 0, 1) := by decide +kernel
theorem dX11_pair_27 : decode cX11_pair 27 = .ok (.aload_n 0, 1) := by decide +kernel
theorem dX11_pair_28 : decode cX11_pair 28 = .ok (.getfield 257, 3) := by decide +kernel
theorem dX11_pair_31 : decode cX11_pair 31 = .ok (.putfield 305, 3) := by decide +kernel
theorem dX11_pair_34 : decode cX11_pair 34 = .ok (.iconst 0, 1) := by decide +kernel
theorem dX11_pair_35 : decode cX11_pair 35 = .ok (.istore_n 2, 1) := by decide +kernel
theorem dX11_pair_36 : decode cX11_pair 36 = .ok (.iload_n 2, 1) := by decide +kernel
theorem dX11_pair_37 : decode cX11_pair 37 = .ok (.aload_n 0, 1) := by decide +kernel
theorem dX11_pair_38 : decode cX11_pair 38 = .ok (.getfield 257, 3) := by decide +kernel
theorem dX11_pair_41 : decode cX11_pair 41 = .ok (.if_icmp .ge 21, 3) := by decide +kernel
theorem dX11_pair_44 : decode cX11_pair 44 = .ok (.aload_n 0, 1) := by decide +kernel
theorem dX11_pair_45 : decode cX11_pair 45 = .ok (.getfield 88, 3) := by decide +kernel
theorem dX11_pair_48 : decode cX11_pair 48 = .ok (.iload_n 2, 1) := by decide +kernel
theorem dX11_pair_49 : decode cX11_pair 49 = .ok (.aload_n 0, 1) := by decide +kernel
theorem dX11_pair_50 : decode cX11_pair 50 = .ok (.getfield 85, 3) := by decide +kernel
theorem dX11_pair_53 : decode cX11_pair 53 = .ok (.iload_n 2, 1) := by decide +kernel
theorem dX11_pair_54 : decode cX11_pair 54 = .ok (.iaload, 1) := by decide +kernel
theorem dX11_pair_55 : decode cX11_pair 55 = .ok (.iastore, 1) := by decide +kernel
theorem dX11_pair_56 : decode cX11_pair 56 = .ok (.iinc 2 1, 3) := by decide +kernel
theorem dX11_pair_59 : decode cX11_pair 59 = .ok (.goto (-23), 3) := by decide +kernel
theorem dX11_pair_62 : decode cX11_pair 62 = .ok (.aload_n 0, 1) := by decide +kernel
theorem dX11_pair_63 : decode cX11_pair 63 = .ok (.getfield 76, 3) := by decide +kernel
theorem dX11_pair_66 : decode cX11_pair 66 = .ok (.iconst 1, 1) := by decide +kernel
theorem dX11_pair_67 : decode cX11_pair 67 = .ok (.aload_n 0, 1) := by decide +kernel
theorem dX11_pair_68 : decode cX11_pair 68 = .ok (.getfield 257, 3) := by decide +kernel
theorem dX11_pair_71 : decode cX11_pair 71 = .ok (.ishl, 1) := by decide +kernel
theorem dX11_pair_72 : decode cX11_pair 72 = .ok (.iconst 1, 1) := by decide +kernel
theorem dX11_pair_73 : decode cX11_pair 73 = .ok (.isub, 1) := by decide +kernel
theorem dX11_pair_74 : decode cX11_pair 74 = .ok (.iaload, 1) := by decide +kernel
theorem dX11_pair_75 : decode cX11_pair 75 = .ok (.ireturn, 1) := by decide +kernel
theorem dX11_partner_0 : decode cX11_partner 0 = .ok (.aload_n 0, 1) := by decide +kernel
theorem dX11_partner_1 : decode cX11_partner 1 = .ok (.iconst 0, 1) := by decide +kernel
theorem dX11_partner_2 : decode cX11_partner 2 = .ok (.putfield 1, 3) := by decide +kernel
theorem dX11_partner_5 : decode cX11_partner 5 = .ok (.iload_n 1, 1) := by decide +kernel
theorem dX11_partner_6 : decode cX11_partner 6 = .ok (.iconst 0, 1) := by decide +kernel
theorem dX11_partner_7 : decode cX11_partner 7 = .ok (.aload_n 0, 1) := by decide +kernel
theorem dX11_partner_8 : decode cX11_partner 8 = .ok (.getfield 305, 3) := by decide +kernel
theorem dX11_partner_11 : decode cX11_partner 11 = .ok (.iconst 1, 1) := by decide +kernel
theorem dX11_partner_12 : decode cX11_partner 12 = .ok (.isub, 1) := by decide +kernel
theorem dX11_partner_13 : decode cX11_partner 13 = .ok (.invokestatic 144, 3) := by decide +kernel
theorem dX11_partner_16 : decode cX11_partner 16 = .ok (.ifCond .eq 12, 3) := by decide +kernel
theorem dX11_partner_19 : decode cX11_partner 19 = .ok (.aload_n 0, 1) := by decide +kernel
theorem dX11_partner_20 : decode cX11_partner 20 = .ok (.getfield 88, 3) := by decide +kernel
theorem dX11_partner_23 : decode cX11_partner 23 = .ok (.iload_n 1, 1) := by decide +kernel
theorem dX11_partner_24 : decode cX11_partner 24 = .ok (.iaload, 1) := by decide +kernel
theorem dX11_partner_25 : decode cX11_partner 25 = .ok (.goto 4, 3) := by decide +kernel
theorem dX11_partner_28 : decode cX11_partner 28 = .ok (.iconst (-1), 1) := by decide +kernel
theorem dX11_partner_29 : decode cX11_partner 29 = .ok (.ireturn, 1) := by decide +kernel
theorem dX11_pairings_0 : decode cX11_pairings 0 = .ok (.aload_n 0, 1) := by decide +kernel
theorem dX11_pairings_1 : decode cX11_pairings 1 = .ok (.iconst 0, 1) := by decide +kernel
theorem dX11_pairings_2 : decode cX11_pairings 2 = .ok (.putfield 1, 3) := by decide +kernel
theorem dX11_pairings_5 : decode cX11_pairings 5 = .ok (.iload_n 1, 1) := by decide +kernel
theorem dX11_pairings_6 : decode cX11_pairings 6 = .ok (.invokestatic 165, 3) := by decide +kernel
theorem dX11_pairings_9 : decode cX11_pairings 9 = .ok (.ifCond .eq 27, 3) := by decide +kernel
theorem dX11_pairings_12 : decode cX11_pairings 12 = .ok (.aload_n 0, 1) := by decide +kernel
theorem dX11_pairings_13 : decode cX11_pairings 13 = .ok (.iload_n 1, 1) := by decide +kernel
theorem dX11_pairings_14 : decode cX11_pairings 14 = .ok (.invokevirtual 299, 3) := by decide +kernel
theorem dX11_pairings_17 : decode cX11_pairings 17 = .ok (.ifCond .eq 19, 3) := by decide +kernel
theorem dX11_pairings_20 : decode cX11_pairings 20 = .ok (.aload_n 0, 1) := by decide +kernel
theorem dX11_pairings_21 : decode cX11_pairings 21 = .ok (.getfield 79, 3) := by decide +kernel
theorem dX11_pairings_24 : decode cX11_pairings 24 = .ok (.iconst 1, 1) := by decide +kernel
theorem dX11_pairings_25 : decode cX11_pairings 25 = .ok (.aload_n 0, 1) := by decide +kernel
theorem dX11_pairings_26 : decode cX11_pairings 26 = .ok (.getfield 257, 3) := by decide +kernel
theorem dX11_pairings_29 : decode cX11_pairings 29 = .ok (.ishl, 1) := by decide +kernel
theorem dX11_pairings_30 : decode cX11_pairings 30 = .ok (.iconst 1, 1) := by decide +kernel
theorem dX11_pairings_31 : decode cX11_pairings 31 = .ok (.isub, 1) := by decide +kernel
theorem dX11_pairings_32 : decode cX11_pairings 32 = .ok (.iaload, 1) := by decide +kernel
theorem dX11_pairings_33 : decode cX11_pairings 33 = .ok (.goto 4, 3) := by decide +kernel
theorem dX11_pairings_36 : decode cX11_pairings 36 = .ok (.iconst (-1), 1) := by decide +kernel
theorem dX11_pairings_37 : decode cX11_pairings 37 = .ok (.ireturn, 1) := by decide +kernel
theorem dX11_leaderOf_0 : decode cX11_leaderOf 0 = .ok (.iload_n 1, 1) := by decide +kernel
theorem dX11_leaderOf_1 : decode cX11_leaderOf 1 = .ok (.istore_n 2, 1) := by decide +kernel
theorem dX11_leaderOf_2 : decode cX11_leaderOf 2 = .ok (.aload_n 0, 1) := by decide +kernel
theorem dX11_leaderOf_3 : decode cX11_leaderOf 3 = .ok (.getfield 94, 3) := by decide +kernel
theorem dX11_leaderOf_6 : decode cX11_leaderOf 6 = .ok (.iload_n 2, 1) := by decide +kernel
theorem dX11_leaderOf_7 : decode cX11_leaderOf 7 = .ok (.iaload, 1) := by decide +kernel
theorem dX11_leaderOf_8 : decode cX11_leaderOf 8 = .ok (.iload_n 2, 1) := by decide +kernel
theorem dX11_leaderOf_9 : decode cX11_leaderOf 9 = .ok (.if_icmp .eq 13, 3) := by decide +kernel
theorem dX11_leaderOf_12 : decode cX11_leaderOf 12 = .ok (.aload_n 0, 1) := by decide +kernel
theorem dX11_leaderOf_13 : decode cX11_leaderOf 13 = .ok (.getfield 94, 3) := by decide +kernel
theorem dX11_leaderOf_16 : decode cX11_leaderOf 16 = .ok (.iload_n 2, 1) := by decide +kernel
theorem dX11_leaderOf_17 : decode cX11_leaderOf 17 = .ok (.iaload, 1) := by decide +kernel
theorem dX11_leaderOf_18 : decode cX11_leaderOf 18 = .ok (.istore_n 2, 1) := by decide +kernel
theorem dX11_leaderOf_19 : decode cX11_leaderOf 19 = .ok (.goto (-17), 3) := by decide +kernel
theorem dX11_leaderOf_22 : decode cX11_leaderOf 22 = .ok (.iload_n 2, 1) := by decide +kernel
theorem dX11_leaderOf_23 : decode cX11_leaderOf 23 = .ok (.ireturn, 1) := by decide +kernel
theorem dX11_unites_0 : decode cX11_unites 0 = .ok (.aload_n 0, 1) := by decide +kernel
theorem dX11_unites_1 : decode cX11_unites 1 = .ok (.iload_n 1, 1) := by decide +kernel
theorem dX11_unites_2 : decode cX11_unites 2 = .ok (.invokevirtual 308, 3) := by decide +kernel
theorem dX11_unites_5 : decode cX11_unites 5 = .ok (.istore_n 3, 1) := by decide +kernel
theorem dX11_unites_6 : decode cX11_unites 6 = .ok (.aload_n 0, 1) := by decide +kernel
theorem dX11_unites_7 : decode cX11_unites 7 = .ok (.iload_n 2, 1) := by decide +kernel
theorem dX11_unites_8 : decode cX11_unites 8 = .ok (.invokevirtual 308, 3) := by decide +kernel
theorem dX11_unites_11 : decode cX11_unites 11 = .ok (.istore 4, 2) := by decide +kernel
theorem dX11_unites_13 : decode cX11_unites 13 = .ok (.aload_n 0, 1) := by decide +kernel
theorem dX11_unites_14 : decode cX11_unites 14 = .ok (.getfield 94, 3) := by decide +kernel
theorem dX11_unites_17 : decode cX11_unites 17 = .ok (.iload_n 3, 1) := by decide +kernel
theorem dX11_unites_18 : decode cX11_unites 18 = .ok (.iload 4, 2) := by decide +kernel
theorem dX11_unites_20 : decode cX11_unites 20 = .ok (.if_icmp .le 8, 3) := by decide +kernel
theorem dX11_unites_23 : decode cX11_unites 23 = .ok (.iload 4, 2) := by decide +kernel
theorem dX11_unites_25 : decode cX11_unites 25 = .ok (.goto 4, 3) := by decide +kernel
theorem dX11_unites_28 : decode cX11_unites 28 = .ok (.iload_n 3, 1) := by decide +kernel
theorem dX11_unites_29 : decode cX11_unites 29 = .ok (.iload_n 3, 1) := by decide +kernel
theorem dX11_unites_30 : decode cX11_unites 30 = .ok (.iload 4, 2) := by decide +kernel
theorem dX11_unites_32 : decode cX11_unites 32 = .ok (.if_icmp .le 7, 3) := by decide +kernel
theorem dX11_unites_35 : decode cX11_unites 35 = .ok (.iload_n 3, 1) := by decide +kernel
theorem dX11_unites_36 : decode cX11_unites 36 = .ok (.goto 5, 3) := by decide +kernel
theorem dX11_unites_39 : decode cX11_unites 39 = .ok (.iload 4, 2) := by decide +kernel
theorem dX11_unites_41 : decode cX11_unites 41 = .ok (.iastore, 1) := by decide +kernel
theorem dX11_unites_42 : decode cX11_unites 42 = .ok (.return_, 1) := by decide +kernel
theorem dX11_counts_0 : decode cX11_counts 0 = .ok (.iconst 0, 1) := by decide +kernel
theorem dX11_counts_1 : decode cX11_counts 1 = .ok (.istore_n 1, 1) := by decide +kernel
theorem dX11_counts_2 : decode cX11_counts 2 = .ok (.iload_n 1, 1) := by decide +kernel
theorem dX11_counts_3 : decode cX11_counts 3 = .ok (.aload_n 0, 1) := by decide +kernel
theorem dX11_counts_4 : decode cX11_counts 4 = .ok (.getfield 254, 3) := by decide +kernel
theorem dX11_counts_7 : decode cX11_counts 7 = .ok (.if_icmp .gt 16, 3) := by decide +kernel
theorem dX11_counts_10 : decode cX11_counts 10 = .ok (.aload_n 0, 1) := by decide +kernel
theorem dX11_counts_11 : decode cX11_counts 11 = .ok (.getfield 97, 3) := by decide +kernel
theorem dX11_counts_14 : decode cX11_counts 14 = .ok (.iload_n 1, 1) := by decide +kernel
theorem dX11_counts_15 : decode cX11_counts 15 = .ok (.iconst 0, 1) := by decide +kernel
theorem dX11_counts_16 : decode cX11_counts 16 = .ok (.iastore, 1) := by decide +kernel
theorem dX11_counts_17 : decode cX11_counts 17 = .ok (.iinc 1 1, 3) := by decide +kernel
theorem dX11_counts_20 : decode cX11_counts 20 = .ok (.goto (-18), 3) := by decide +kernel
theorem dX11_counts_23 : decode cX11_counts 23 = .ok (.iconst 0, 1) := by decide +kernel
theorem dX11_counts_24 : decode cX11_counts 24 = .ok (.istore_n 1, 1) := by decide +kernel
theorem dX11_counts_25 : decode cX11_counts 25 = .ok (.iload_n 1, 1) := by decide +kernel
theorem dX11_counts_26 : decode cX11_counts 26 = .ok (.aload_n 0, 1) := by decide +kernel
theorem dX11_counts_27 : decode cX11_counts 27 = .ok (.getfield 257, 3) := by decide +kernel
theorem dX11_counts_30 : decode cX11_counts 30 = .ok (.if_icmp .ge 28, 3) := by decide +kernel
theorem dX11_counts_33 : decode cX11_counts 33 = .ok (.aload_n 0, 1) := by decide +kernel
theorem dX11_counts_34 : decode cX11_counts 34 = .ok (.getfield 97, 3) := by decide +kernel
theorem dX11_counts_37 : decode cX11_counts 37 = .ok (.aload_n 0, 1) := by decide +kernel
theorem dX11_counts_38 : decode cX11_counts 38 = .ok (.aload_n 0, 1) := by decide +kernel
theorem dX11_counts_39 : decode cX11_counts 39 = .ok (.getfield 70, 3) := by decide +kernel
theorem dX11_counts_42 : decode cX11_counts 42 = .ok (.iload_n 1, 1) := by decide +kernel
theorem dX11_counts_43 : decode cX11_counts 43 = .ok (.iaload, 1) := by decide +kernel
theorem dX11_counts_44 : decode cX11_counts 44 = .ok (.invokevirtual 308, 3) := by decide +kernel
theorem dX11_counts_47 : decode cX11_counts 47 = .ok (.dup2, 1) := by decide +kernel
theorem dX11_counts_48 : decode cX11_counts 48 = .ok (.iaload, 1) := by decide +kernel
theorem dX11_counts_49 : decode cX11_counts 49 = .ok (.iconst 1, 1) := by decide +kernel
theorem dX11_counts_50 : decode cX11_counts 50 = .ok (.ixor, 1) := by decide +kernel
theorem dX11_counts_51 : decode cX11_counts 51 = .ok (.iastore, 1) := by decide +kernel
theorem dX11_counts_52 : decode cX11_counts 52 = .ok (.iinc 1 1, 3) := by decide +kernel
theorem dX11_counts_55 : decode cX11_counts 55 = .ok (.goto (-30), 3) := by decide +kernel
theorem dX11_counts_58 : decode cX11_counts 58 = .ok (.aload_n 0, 1) := by decide +kernel
theorem dX11_counts_59 : decode cX11_counts 59 = .ok (.getfield 97, 3) := by decide +kernel
theorem dX11_counts_62 : decode cX11_counts 62 = .ok (.aload_n 0, 1) := by decide +kernel
theorem dX11_counts_63 : decode cX11_counts 63 = .ok (.aload_n 0, 1) := by decide +kernel
theorem dX11_counts_64 : decode cX11_counts 64 = .ok (.getfield 254, 3) := by decide +kernel
theorem dX11_counts_67 : decode cX11_counts 67 = .ok (.invokevirtual 308, 3) := by decide +kernel
theorem dX11_counts_70 : decode cX11_counts 70 = .ok (.iconst 0, 1) := by decide +kernel
theorem dX11_counts_71 : decode cX11_counts 71 = .ok (.iastore, 1) := by decide +kernel
theorem dX11_counts_72 : decode cX11_counts 72 = .ok (.iconst 0, 1) := by decide +kernel
theorem dX11_counts_73 : decode cX11_counts 73 = .ok (.istore_n 1, 1) := by decide +kernel
theorem dX11_counts_74 : decode cX11_counts 74 = .ok (.iconst 0, 1) := by decide +kernel
theorem dX11_counts_75 : decode cX11_counts 75 = .ok (.istore_n 2, 1) := by decide +kernel
theorem dX11_counts_76 : decode cX11_counts 76 = .ok (.iload_n 2, 1) := by decide +kernel
theorem dX11_counts_77 : decode cX11_counts 77 = .ok (.aload_n 0, 1) := by decide +kernel
theorem dX11_counts_78 : decode cX11_counts 78 = .ok (.getfield 254, 3) := by decide +kernel
theorem dX11_counts_81 : decode cX11_counts 81 = .ok (.if_icmp .gt 29, 3) := by decide +kernel
theorem dX11_counts_84 : decode cX11_counts 84 = .ok (.iload_n 1, 1) := by decide +kernel
theorem dX11_counts_85 : decode cX11_counts 85 = .ok (.ifCond .ne 13, 3) := by decide +kernel
theorem dX11_counts_88 : decode cX11_counts 88 = .ok (.aload_n 0, 1) := by decide +kernel
theorem dX11_counts_89 : decode cX11_counts 89 = .ok (.getfield 97, 3) := by decide +kernel
theorem dX11_counts_92 : decode cX11_counts 92 = .ok (.iload_n 2, 1) := by decide +kernel
theorem dX11_counts_93 : decode cX11_counts 93 = .ok (.iaload, 1) := by decide +kernel
theorem dX11_counts_94 : decode cX11_counts 94 = .ok (.iconst 1, 1) := by decide +kernel
theorem dX11_counts_95 : decode cX11_counts 95 = .ok (.if_icmp .ne 7, 3) := by decide +kernel
theorem dX11_counts_98 : decode cX11_counts 98 = .ok (.iconst 1, 1) := by decide +kernel
theorem dX11_counts_99 : decode cX11_counts 99 = .ok (.goto 4, 3) := by decide +kernel
theorem dX11_counts_102 : decode cX11_counts 102 = .ok (.iconst 0, 1) := by decide +kernel
theorem dX11_counts_103 : decode cX11_counts 103 = .ok (.istore_n 1, 1) := by decide +kernel
theorem dX11_counts_104 : decode cX11_counts 104 = .ok (.iinc 2 1, 3) := by decide +kernel
theorem dX11_counts_107 : decode cX11_counts 107 = .ok (.goto (-31), 3) := by decide +kernel
theorem dX11_counts_110 : decode cX11_counts 110 = .ok (.iload_n 1, 1) := by decide +kernel
theorem dX11_counts_111 : decode cX11_counts 111 = .ok (.ireturn, 1) := by decide +kernel
theorem dX11_opens_0 : decode cX11_opens 0 = .ok (.iload_n 1, 1) := by decide +kernel
theorem dX11_opens_1 : decode cX11_opens 1 = .ok (.aload_n 0, 1) := by decide +kernel
theorem dX11_opens_2 : decode cX11_opens 2 = .ok (.getfield 254, 3) := by decide +kernel
theorem dX11_opens_5 : decode cX11_opens 5 = .ok (.if_icmp .ne 7, 3) := by decide +kernel
theorem dX11_opens_8 : decode cX11_opens 8 = .ok (.iconst 0, 1) := by decide +kernel
theorem dX11_opens_9 : decode cX11_opens 9 = .ok (.goto 13, 3) := by decide +kernel
theorem dX11_opens_12 : decode cX11_opens 12 = .ok (.aload_n 0, 1) := by decide +kernel
theorem dX11_opens_13 : decode cX11_opens 13 = .ok (.getfield 97, 3) := by decide +kernel
theorem dX11_opens_16 : decode cX11_opens 16 = .ok (.aload_n 0, 1) := by decide +kernel
theorem dX11_opens_17 : decode cX11_opens 17 = .ok (.iload_n 1, 1) := by decide +kernel
theorem dX11_opens_18 : decode cX11_opens 18 = .ok (.invokevirtual 308, 3) := by decide +kernel
theorem dX11_opens_21 : decode cX11_opens 21 = .ok (.iaload, 1) := by decide +kernel
theorem dX11_opens_22 : decode cX11_opens 22 = .ok (.ireturn, 1) := by decide +kernel
theorem dX11_grows_0 : decode cX11_grows 0 = .ok (.aload_n 0, 1) := by decide +kernel
theorem dX11_grows_1 : decode cX11_grows 1 = .ok (.iload_n 1, 1) := by decide +kernel
theorem dX11_grows_2 : decode cX11_grows 2 = .ok (.invokevirtual 270, 3) := by decide +kernel
theorem dX11_grows_5 : decode cX11_grows 5 = .ok (.iconst 0, 1) := by decide +kernel
theorem dX11_grows_6 : decode cX11_grows 6 = .ok (.istore_n 2, 1) := by decide +kernel
theorem dX11_grows_7 : decode cX11_grows 7 = .ok (.iload_n 2, 1) := by decide +kernel
theorem dX11_grows_8 : decode cX11_grows 8 = .ok (.aload_n 0, 1) := by decide +kernel
theorem dX11_grows_9 : decode cX11_grows 9 = .ok (.getfield 254, 3) := by decide +kernel
theorem dX11_grows_12 : decode cX11_grows 12 = .ok (.if_icmp .gt 16, 3) := by decide +kernel
theorem dX11_grows_15 : decode cX11_grows 15 = .ok (.aload_n 0, 1) := by decide +kernel
theorem dX11_grows_16 : decode cX11_grows 16 = .ok (.getfield 94, 3) := by decide +kernel
theorem dX11_grows_19 : decode cX11_grows 19 = .ok (.iload_n 2, 1) := by decide +kernel
theorem dX11_grows_20 : decode cX11_grows 20 = .ok (.iload_n 2, 1) := by decide +kernel
theorem dX11_grows_21 : decode cX11_grows 21 = .ok (.iastore, 1) := by decide +kernel
theorem dX11_grows_22 : decode cX11_grows 22 = .ok (.iinc 2 1, 3) := by decide +kernel
theorem dX11_grows_25 : decode cX11_grows 25 = .ok (.goto (-18), 3) := by decide +kernel
theorem dX11_grows_28 : decode cX11_grows 28 = .ok (.iconst 0, 1) := by decide +kernel
theorem dX11_grows_29 : decode cX11_grows 29 = .ok (.istore_n 2, 1) := by decide +kernel
theorem dX11_grows_30 : decode cX11_grows 30 = .ok (.iload_n 2, 1) := by decide +kernel
theorem dX11_grows_31 : decode cX11_grows 31 = .ok (.aload_n 0, 1) := by decide +kernel
theorem dX11_grows_32 : decode cX11_grows 32 = .ok (.getfield 251, 3) := by decide +kernel
theorem dX11_grows_35 : decode cX11_grows 35 = .ok (.if_icmp .ge 23, 3) := by decide +kernel
theorem dX11_grows_38 : decode cX11_grows 38 = .ok (.aload_n 0, 1) := by decide +kernel
theorem dX11_grows_39 : decode cX11_grows 39 = .ok (.getfield 91, 3) := by decide +kernel
theorem dX11_grows_42 : decode cX11_grows 42 = .ok (.iload_n 2, 1) := by decide +kernel
theorem dX11_grows_43 : decode cX11_grows 43 = .ok (.iconst 0, 1) := by decide +kernel
theorem dX11_grows_44 : decode cX11_grows 44 = .ok (.iastore, 1) := by decide +kernel
theorem dX11_grows_45 : decode cX11_grows 45 = .ok (.aload_n 0, 1) := by decide +kernel
theorem dX11_grows_46 : decode cX11_grows 46 = .ok (.getfield 106, 3) := by decide +kernel
theorem dX11_grows_49 : decode cX11_grows 49 = .ok (.iload_n 2, 1) := by decide +kernel
theorem dX11_grows_50 : decode cX11_grows 50 = .ok (.iconst 0, 1) := by decide +kernel
theorem dX11_grows_51 : decode cX11_grows 51 = .ok (.bastore, 1) := by decide +kernel
theorem dX11_grows_52 : decode cX11_grows 52 = .ok (.iinc 2 1, 3) := by decide +kernel
theorem dX11_grows_55 : decode cX11_grows 55 = .ok (.goto (-25), 3) := by decide +kernel
theorem dX11_grows_58 : decode cX11_grows 58 = .ok (.aload_n 0, 1) := by decide +kernel
theorem dX11_grows_59 : decode cX11_grows 59 = .ok (.iconst 0, 1) := by decide +kernel
theorem dX11_grows_60 : decode cX11_grows 60 = .ok (.putfield 311, 3) := by decide +kernel
theorem dX11_grows_63 : decode cX11_grows 63 = .ok (.aload_n 0, 1) := by decide +kernel
theorem dX11_grows_64 : decode cX11_grows 64 = .ok (.invokevirtual 314, 3) := by decide +kernel
theorem dX11_grows_67 : decode cX11_grows 67 = .ok (.ifCond .eq 139, 3) := by decide +kernel
theorem dX11_grows_70 : decode cX11_grows 70 = .ok (.iconst 0, 1) := by decide +kernel
theorem dX11_grows_71 : decode cX11_grows 71 = .ok (.istore_n 2, 1) := by decide +kernel
theorem dX11_grows_72 : decode cX11_grows 72 = .ok (.iload_n 2, 1) := by decide +kernel
theorem dX11_grows_73 : decode cX11_grows 73 = .ok (.aload_n 0, 1) := by decide +kernel
theorem dX11_grows_74 : decode cX11_grows 74 = .ok (.getfield 251, 3) := by decide +kernel
theorem dX11_grows_77 : decode cX11_grows 77 = .ok (.if_icmp .ge 48, 3) := by decide +kernel
theorem dX11_grows_80 : decode cX11_grows 80 = .ok (.aload_n 0, 1) := by decide +kernel
theorem dX11_grows_81 : decode cX11_grows 81 = .ok (.getfield 106, 3) := by decide +kernel
theorem dX11_grows_84 : decode cX11_grows 84 = .ok (.iload_n 2, 1) := by decide +kernel
theorem dX11_grows_85 : decode cX11_grows 85 = .ok (.baload, 1) := by decide +kernel
theorem dX11_grows_86 : decode cX11_grows 86 = .ok (.ifCond .ne 33, 3) := by decide +kernel
theorem dX11_grows_89 : decode cX11_grows 89 = .ok (.aload_n 0, 1) := by decide +kernel
theorem dX11_grows_90 : decode cX11_grows 90 = .ok (.getfield 91, 3) := by decide +kernel
theorem dX11_grows_93 : decode cX11_grows 93 = .ok (.iload_n 2, 1) := by decide +kernel
theorem dX11_grows_94 : decode cX11_grows 94 = .ok (.dup2, 1) := by decide +kernel
theorem dX11_grows_95 : decode cX11_grows 95 = .ok (.iaload, 1) := by decide +kernel
theorem dX11_grows_96 : decode cX11_grows 96 = .ok (.aload_n 0, 1) := by decide +kernel
theorem dX11_grows_97 : decode cX11_grows 97 = .ok (.aload_n 0, 1) := by decide +kernel
theorem dX11_grows_98 : decode cX11_grows 98 = .ok (.getfield 58, 3) := by decide +kernel
theorem dX11_grows_101 : decode cX11_grows 101 = .ok (.iload_n 2, 1) := by decide +kernel
theorem dX11_grows_102 : decode cX11_grows 102 = .ok (.iaload, 1) := by decide +kernel
theorem dX11_grows_103 : decode cX11_grows 103 = .ok (.invokevirtual 317, 3) := by decide +kernel
theorem dX11_grows_106 : decode cX11_grows 106 = .ok (.aload_n 0, 1) := by decide +kernel
theorem dX11_grows_107 : decode cX11_grows 107 = .ok (.aload_n 0, 1) := by decide +kernel
theorem dX11_grows_108 : decode cX11_grows 108 = .ok (.getfield 61, 3) := by decide +kernel
theorem dX11_grows_111 : decode cX11_grows 111 = .ok (.iload_n 2, 1) := by decide +kernel
theorem dX11_grows_112 : decode cX11_grows 112 = .ok (.iaload, 1) := by decide +kernel
theorem dX11_grows_113 : decode cX11_grows 113 = .ok (.invokevirtual 317, 3) := by decide +kernel
theorem dX11_grows_116 : decode cX11_grows 116 = .ok (.iadd, 1) := by decide +kernel
theorem dX11_grows_117 : decode cX11_grows 117 = .ok (.iadd, 1) := by decide +kernel
theorem dX11_grows_118 : decode cX11_grows 118 = .ok (.iastore, 1) := by decide +kernel
theorem dX11_grows_119 : decode cX11_grows 119 = .ok (.iinc 2 1, 3) := by decide +kernel
theorem dX11_grows_122 : decode cX11_grows 122 = .ok (.goto (-50), 3) := by decide +kernel
theorem dX11_grows_125 : decode cX11_grows 125 = .ok (.iconst 0, 1) := by decide +kernel
theorem dX11_grows_126 : decode cX11_grows 126 = .ok (.istore_n 2, 1) := by decide +kernel
theorem dX11_grows_127 : decode cX11_grows 127 = .ok (.iload_n 2, 1) := by decide +kernel
theorem dX11_grows_128 : decode cX11_grows 128 = .ok (.aload_n 0, 1) := by decide +kernel
theorem dX11_grows_129 : decode cX11_grows 129 = .ok (.getfield 251, 3) := by decide +kernel
theorem dX11_grows_132 : decode cX11_grows 132 = .ok (.if_icmp .ge 61, 3) := by decide +kernel
theorem dX11_grows_135 : decode cX11_grows 135 = .ok (.aload_n 0, 1) := by decide +kernel
theorem dX11_grows_136 : decode cX11_grows 136 = .ok (.getfield 106, 3) := by decide +kernel
theorem dX11_grows_139 : decode cX11_grows 139 = .ok (.iload_n 2, 1) := by decide +kernel
theorem dX11_grows_140 : decode cX11_grows 140 = .ok (.baload, 1) := by decide +kernel
theorem dX11_grows_141 : decode cX11_grows 141 = .ok (.ifCond .ne 46, 3) := by decide +kernel
theorem dX11_grows_144 : decode cX11_grows 144 = .ok (.aload_n 0, 1) := by decide +kernel
theorem dX11_grows_145 : decode cX11_grows 145 = .ok (.getfield 91, 3) := by decide +kernel
theorem dX11_grows_148 : decode cX11_grows 148 = .ok (.iload_n 2, 1) := by decide +kernel
theorem dX11_grows_149 : decode cX11_grows 149 = .ok (.iaload, 1) := by decide +kernel
theorem dX11_grows_150 : decode cX11_grows 150 = .ok (.iconst 2, 1) := by decide +kernel
theorem dX11_grows_151 : decode cX11_grows 151 = .ok (.aload_n 0, 1) := by decide +kernel
theorem dX11_grows_152 : decode cX11_grows 152 = .ok (.getfield 64, 3) := by decide +kernel
theorem dX11_grows_155 : decode cX11_grows 155 = .ok (.iload_n 2, 1) := by decide +kernel
theorem dX11_grows_156 : decode cX11_grows 156 = .ok (.iaload, 1) := by decide +kernel
theorem dX11_grows_157 : decode cX11_grows 157 = .ok (.imul, 1) := by decide +kernel
theorem dX11_grows_158 : decode cX11_grows 158 = .ok (.if_icmp .ge 6, 3) := by decide +kernel
theorem dX11_grows_161 : decode cX11_grows 161 = .ok (.goto 26, 3) := by decide +kernel
theorem dX11_grows_164 : decode cX11_grows 164 = .ok (.aload_n 0, 1) := by decide +kernel
theorem dX11_grows_165 : decode cX11_grows 165 = .ok (.getfield 106, 3) := by decide +kernel
theorem dX11_grows_168 : decode cX11_grows 168 = .ok (.iload_n 2, 1) := by decide +kernel
theorem dX11_grows_169 : decode cX11_grows 169 = .ok (.iconst 1, 1) := by decide +kernel
theorem dX11_grows_170 : decode cX11_grows 170 = .ok (.bastore, 1) := by decide +kernel
theorem dX11_grows_171 : decode cX11_grows 171 = .ok (.aload_n 0, 1) := by decide +kernel
theorem dX11_grows_172 : decode cX11_grows 172 = .ok (.aload_n 0, 1) := by decide +kernel
theorem dX11_grows_173 : decode cX11_grows 173 = .ok (.getfield 58, 3) := by decide +kernel
theorem dX11_grows_176 : decode cX11_grows 176 = .ok (.iload_n 2, 1) := by decide +kernel
theorem dX11_grows_177 : decode cX11_grows 177 = .ok (.iaload, 1) := by decide +kernel
theorem dX11_grows_178 : decode cX11_grows 178 = .ok (.aload_n 0, 1) := by decide +kernel
theorem dX11_grows_179 : decode cX11_grows 179 = .ok (.getfield 61, 3) := by decide +kernel
theorem dX11_grows_182 : decode cX11_grows 182 = .ok (.iload_n 2, 1) := by decide +kernel
theorem dX11_grows_183 : decode cX11_grows 183 = .ok (.iaload, 1) := by decide +kernel
theorem dX11_grows_184 : decode cX11_grows 184 = .ok (.invokevirtual 320, 3) := by decide +kernel
theorem dX11_grows_187 : decode cX11_grows 187 = .ok (.iinc 2 1, 3) := by decide +kernel
theorem dX11_grows_190 : decode cX11_grows 190 = .ok (.goto (-63), 3) := by decide +kernel
theorem dX11_grows_193 : decode cX11_grows 193 = .ok (.aload_n 0, 1) := by decide +kernel
theorem dX11_grows_194 : decode cX11_grows 194 = .ok (.dup, 1) := by decide +kernel
theorem dX11_grows_195 : decode cX11_grows 195 = .ok (.getfield 311, 3) := by decide +kernel
theorem dX11_grows_198 : decode cX11_grows 198 = .ok (.iconst 1, 1) := by decide +kernel
theorem dX11_grows_199 : decode cX11_grows 199 = .ok (.iadd, 1) := by decide +kernel
theorem dX11_grows_200 : decode cX11_grows 200 = .ok (.putfield 311, 3) := by decide +kernel
theorem dX11_grows_203 : decode cX11_grows 203 = .ok (.goto (-140), 3) := by decide +kernel
theorem dX11_grows_206 : decode cX11_grows 206 = .ok (.aload_n 0, 1) := by decide +kernel
theorem dX11_grows_207 : decode cX11_grows 207 = .ok (.iconst 0, 1) := by decide +kernel
theorem dX11_grows_208 : decode cX11_grows 208 = .ok (.putfield 324, 3) := by decide +kernel
theorem dX11_grows_211 : decode cX11_grows 211 = .ok (.aload_n 0, 1) := by decide +kernel
theorem dX11_grows_212 : decode cX11_grows 212 = .ok (.iconst 0, 1) := by decide +kernel
theorem dX11_grows_213 : decode cX11_grows 213 = .ok (.putfield 327, 3) := by decide +kernel
theorem dX11_grows_216 : decode cX11_grows 216 = .ok (.iconst 0, 1) := by decide +kernel
theorem dX11_grows_217 : decode cX11_grows 217 = .ok (.istore_n 2, 1) := by decide +kernel
theorem dX11_grows_218 : decode cX11_grows 218 = .ok (.iload_n 2, 1) := by decide +kernel
theorem dX11_grows_219 : decode cX11_grows 219 = .ok (.aload_n 0, 1) := by decide +kernel
theorem dX11_grows_220 : decode cX11_grows 220 = .ok (.getfield 254, 3) := by decide +kernel
theorem dX11_grows_223 : decode cX11_grows 223 = .ok (.if_icmp .gt 16, 3) := by decide +kernel
theorem dX11_grows_226 : decode cX11_grows 226 = .ok (.aload_n 0, 1) := by decide +kernel
theorem dX11_grows_227 : decode cX11_grows 227 = .ok (.getfield 94, 3) := by decide +kernel
theorem dX11_grows_230 : decode cX11_grows 230 = .ok (.iload_n 2, 1) := by decide +kernel
theorem dX11_grows_231 : decode cX11_grows 231 = .ok (.iload_n 2, 1) := by decide +kernel
theorem dX11_grows_232 : decode cX11_grows 232 = .ok (.iastore, 1) := by decide +kernel
theorem dX11_grows_233 : decode cX11_grows 233 = .ok (.iinc 2 1, 3) := by decide +kernel
theorem dX11_grows_236 : decode cX11_grows 236 = .ok (.goto (-18), 3) := by decide +kernel
theorem dX11_grows_239 : decode cX11_grows 239 = .ok (.iconst 0, 1) := by decide +kernel
theorem dX11_grows_240 : decode cX11_grows 240 = .ok (.istore_n 2, 1) := by decide +kernel
theorem dX11_grows_241 : decode cX11_grows 241 = .ok (.iload_n 2, 1) := by decide +kernel
theorem dX11_grows_242 : decode cX11_grows 242 = .ok (.aload_n 0, 1) := by decide +kernel
theorem dX11_grows_243 : decode cX11_grows 243 = .ok (.getfield 251, 3) := by decide +kernel
theorem dX11_grows_246 : decode cX11_grows 246 = .ok (.if_icmp .ge 93, 3) := by decide +kernel
theorem dX11_grows_249 : decode cX11_grows 249 = .ok (.aload_n 0, 1) := by decide +kernel
theorem dX11_grows_250 : decode cX11_grows 250 = .ok (.getfield 106, 3) := by decide +kernel
theorem dX11_grows_253 : decode cX11_grows 253 = .ok (.iload_n 2, 1) := by decide +kernel
theorem dX11_grows_254 : decode cX11_grows 254 = .ok (.baload, 1) := by decide +kernel
theorem dX11_grows_255 : decode cX11_grows 255 = .ok (.ifCond .ne 6, 3) := by decide +kernel
theorem dX11_grows_258 : decode cX11_grows 258 = .ok (.goto 75, 3) := by decide +kernel
theorem dX11_grows_261 : decode cX11_grows 261 = .ok (.aload_n 0, 1) := by decide +kernel
theorem dX11_grows_262 : decode cX11_grows 262 = .ok (.dup, 1) := by decide +kernel
theorem dX11_grows_263 : decode cX11_grows 263 = .ok (.getfield 324, 3) := by decide +kernel
theorem dX11_grows_266 : decode cX11_grows 266 = .ok (.iconst 1, 1) := by decide +kernel
theorem dX11_grows_267 : decode cX11_grows 267 = .ok (.iadd, 1) := by decide +kernel
theorem dX11_grows_268 : decode cX11_grows 268 = .ok (.putfield 324, 3) := by decide +kernel
theorem dX11_grows_271 : decode cX11_grows 271 = .ok (.aload_n 0, 1) := by decide +kernel
theorem dX11_grows_272 : decode cX11_grows 272 = .ok (.aload_n 0, 1) := by decide +kernel
theorem dX11_grows_273 : decode cX11_grows 273 = .ok (.getfield 58, 3) := by decide +kernel
theorem dX11_grows_276 : decode cX11_grows 276 = .ok (.iload_n 2, 1) := by decide +kernel
theorem dX11_grows_277 : decode cX11_grows 277 = .ok (.iaload, 1) := by decide +kernel
theorem dX11_grows_278 : decode cX11_grows 278 = .ok (.invokevirtual 308, 3) := by decide +kernel
theorem dX11_grows_281 : decode cX11_grows 281 = .ok (.aload_n 0, 1) := by decide +kernel
theorem dX11_grows_282 : decode cX11_grows 282 = .ok (.aload_n 0, 1) := by decide +kernel
theorem dX11_grows_283 : decode cX11_grows 283 = .ok (.getfield 61, 3) := by decide +kernel
theorem dX11_grows_286 : decode cX11_grows 286 = .ok (.iload_n 2, 1) := by decide +kernel
theorem dX11_grows_287 : decode cX11_grows 287 = .ok (.iaload, 1) := by decide +kernel
theorem dX11_grows_288 : decode cX11_grows 288 = .ok (.invokevirtual 308, 3) := by decide +kernel
theorem dX11_grows_291 : decode cX11_grows 291 = .ok (.if_icmp .ne 6, 3) := by decide +kernel
theorem dX11_grows_294 : decode cX11_grows 294 = .ok (.goto 39, 3) := by decide +kernel
theorem dX11_grows_297 : decode cX11_grows 297 = .ok (.aload_n 0, 1) := by decide +kernel
theorem dX11_grows_298 : decode cX11_grows 298 = .ok (.aload_n 0, 1) := by decide +kernel
theorem dX11_grows_299 : decode cX11_grows 299 = .ok (.getfield 58, 3) := by decide +kernel
theorem dX11_grows_302 : decode cX11_grows 302 = .ok (.iload_n 2, 1) := by decide +kernel
theorem dX11_grows_303 : decode cX11_grows 303 = .ok (.iaload, 1) := by decide +kernel
theorem dX11_grows_304 : decode cX11_grows 304 = .ok (.aload_n 0, 1) := by decide +kernel
theorem dX11_grows_305 : decode cX11_grows 305 = .ok (.getfield 61, 3) := by decide +kernel
theorem dX11_grows_308 : decode cX11_grows 308 = .ok (.iload_n 2, 1) := by decide +kernel
theorem dX11_grows_309 : decode cX11_grows 309 = .ok (.iaload, 1) := by decide +kernel
theorem dX11_grows_310 : decode cX11_grows 310 = .ok (.invokevirtual 320, 3) := by decide +kernel
theorem dX11_grows_313 : decode cX11_grows 313 = .ok (.aload_n 0, 1) := by decide +kernel
theorem dX11_grows_314 : decode cX11_grows 314 = .ok (.getfield 100, 3) := by decide +kernel
theorem dX11_grows_317 : decode cX11_grows 317 = .ok (.aload_n 0, 1) := by decide +kernel
theorem dX11_grows_318 : decode cX11_grows 318 = .ok (.getfield 327, 3) := by decide +kernel
theorem dX11_grows_321 : decode cX11_grows 321 = .ok (.iload_n 2, 1) := by decide +kernel
theorem dX11_grows_322 : decode cX11_grows 322 = .ok (.iastore, 1) := by decide +kernel
theorem dX11_grows_323 : decode cX11_grows 323 = .ok (.aload_n 0, 1) := by decide +kernel
theorem dX11_grows_324 : decode cX11_grows 324 = .ok (.dup, 1) := by decide +kernel
theorem dX11_grows_325 : decode cX11_grows 325 = .ok (.getfield 327, 3) := by decide +kernel
theorem dX11_grows_328 : decode cX11_grows 328 = .ok (.iconst 1, 1) := by decide +kernel
theorem dX11_grows_329 : decode cX11_grows 329 = .ok (.iadd, 1) := by decide +kernel
theorem dX11_grows_330 : decode cX11_grows 330 = .ok (.putfield 327, 3) := by decide +kernel
theorem dX11_grows_333 : decode cX11_grows 333 = .ok (.iinc 2 1, 3) := by decide +kernel
theorem dX11_grows_336 : decode cX11_grows 336 = .ok (.goto (-95), 3) := by decide +kernel
theorem dX11_grows_339 : decode cX11_grows 339 = .ok (.aload_n 0, 1) := by decide +kernel
theorem dX11_grows_340 : decode cX11_grows 340 = .ok (.invokevirtual 330, 3) := by decide +kernel
theorem dX11_grows_343 : decode cX11_grows 343 = .ok (.return_, 1) := by decide +kernel
theorem dX11_side_0 : decode cX11_side 0 = .ok (.iconst 0, 1) := by decide +kernel
theorem dX11_side_1 : decode cX11_side 1 = .ok (.istore_n 3, 1) := by decide +kernel
theorem dX11_side_2 : decode cX11_side 2 = .ok (.iload_n 3, 1) := by decide +kernel
theorem dX11_side_3 : decode cX11_side 3 = .ok (.aload_n 0, 1) := by decide +kernel
theorem dX11_side_4 : decode cX11_side 4 = .ok (.getfield 254, 3) := by decide +kernel
theorem dX11_side_7 : decode cX11_side 7 = .ok (.if_icmp .gt 25, 3) := by decide +kernel
theorem dX11_side_10 : decode cX11_side 10 = .ok (.aload_n 0, 1) := by decide +kernel
theorem dX11_side_11 : decode cX11_side 11 = .ok (.getfield 109, 3) := by decide +kernel
theorem dX11_side_14 : decode cX11_side 14 = .ok (.iload_n 3, 1) := by decide +kernel
theorem dX11_side_15 : decode cX11_side 15 = .ok (.iload_n 3, 1) := by decide +kernel
theorem dX11_side_16 : decode cX11_side 16 = .ok (.iload_n 1, 1) := by decide +kernel
theorem dX11_side_17 : decode cX11_side 17 = .ok (.if_icmp .ne 7, 3) := by decide +kernel
theorem dX11_side_20 : decode cX11_side 20 = .ok (.iconst 1, 1) := by decide +kernel
theorem dX11_side_21 : decode cX11_side 21 = .ok (.goto 4, 3) := by decide +kernel
theorem dX11_side_24 : decode cX11_side 24 = .ok (.iconst 0, 1) := by decide +kernel
theorem dX11_side_25 : decode cX11_side 25 = .ok (.bastore, 1) := by decide +kernel
theorem dX11_side_26 : decode cX11_side 26 = .ok (.iinc 3 1, 3) := by decide +kernel
theorem dX11_side_29 : decode cX11_side 29 = .ok (.goto (-27), 3) := by decide +kernel
theorem dX11_side_32 : decode cX11_side 32 = .ok (.iconst 1, 1) := by decide +kernel
theorem dX11_side_33 : decode cX11_side 33 = .ok (.istore_n 3, 1) := by decide +kernel
theorem dX11_side_34 : decode cX11_side 34 = .ok (.iload_n 3, 1) := by decide +kernel
theorem dX11_side_35 : decode cX11_side 35 = .ok (.ifCond .eq 99, 3) := by decide +kernel
theorem dX11_side_38 : decode cX11_side 38 = .ok (.iconst 0, 1) := by decide +kernel
theorem dX11_side_39 : decode cX11_side 39 = .ok (.istore_n 3, 1) := by decide +kernel
theorem dX11_side_40 : decode cX11_side 40 = .ok (.iconst 0, 1) := by decide +kernel
theorem dX11_side_41 : decode cX11_side 41 = .ok (.istore 4, 2) := by decide +kernel
theorem dX11_side_43 : decode cX11_side 43 = .ok (.iload 4, 2) := by decide +kernel
theorem dX11_side_45 : decode cX11_side 45 = .ok (.aload_n 0, 1) := by decide +kernel
theorem dX11_side_46 : decode cX11_side 46 = .ok (.getfield 327, 3) := by decide +kernel
theorem dX11_side_49 : decode cX11_side 49 = .ok (.if_icmp .ge 82, 3) := by decide +kernel
theorem dX11_side_52 : decode cX11_side 52 = .ok (.aload_n 0, 1) := by decide +kernel
theorem dX11_side_53 : decode cX11_side 53 = .ok (.getfield 100, 3) := by decide +kernel
theorem dX11_side_56 : decode cX11_side 56 = .ok (.iload 4, 2) := by decide +kernel
theorem dX11_side_58 : decode cX11_side 58 = .ok (.iaload, 1) := by decide +kernel
theorem dX11_side_59 : decode cX11_side 59 = .ok (.istore 5, 2) := by decide +kernel
theorem dX11_side_61 : decode cX11_side 61 = .ok (.iload 5, 2) := by decide +kernel
theorem dX11_side_63 : decode cX11_side 63 = .ok (.iload_n 2, 1) := by decide +kernel
theorem dX11_side_64 : decode cX11_side 64 = .ok (.if_icmp .eq 61, 3) := by decide +kernel
theorem dX11_side_67 : decode cX11_side 67 = .ok (.aload_n 0, 1) := by decide +kernel
theorem dX11_side_68 : decode cX11_side 68 = .ok (.getfield 109, 3) := by decide +kernel
theorem dX11_side_71 : decode cX11_side 71 = .ok (.aload_n 0, 1) := by decide +kernel
theorem dX11_side_72 : decode cX11_side 72 = .ok (.getfield 58, 3) := by decide +kernel
theorem dX11_side_75 : decode cX11_side 75 = .ok (.iload 5, 2) := by decide +kernel
theorem dX11_side_77 : decode cX11_side 77 = .ok (.iaload, 1) := by decide +kernel
theorem dX11_side_78 : decode cX11_side 78 = .ok (.baload, 1) := by decide +kernel
theorem dX11_side_79 : decode cX11_side 79 = .ok (.aload_n 0, 1) := by decide +kernel
theorem dX11_side_80 : decode cX11_side 80 = .ok (.getfield 109, 3) := by decide +kernel
theorem dX11_side_83 : decode cX11_side 83 = .ok (.aload_n 0, 1) := by decide +kernel
theorem dX11_side_84 : decode cX11_side 84 = .ok (.getfield 61, 3) := by decide +kernel
theorem dX11_side_87 : decode cX11_side 87 = .ok (.iload 5, 2) := by decide +kernel
theorem dX11_side_89 : decode cX11_side 89 = .ok (.iaload, 1) := by decide +kernel
theorem dX11_side_90 : decode cX11_side 90 = .ok (.baload, 1) := by decide +kernel
theorem dX11_side_91 : decode cX11_side 91 = .ok (.if_icmp .ne 6, 3) := by decide +kernel
theorem dX11_side_94 : decode cX11_side 94 = .ok (.goto 31, 3) := by decide +kernel
theorem dX11_side_97 : decode cX11_side 97 = .ok (.aload_n 0, 1) := by decide +kernel
theorem dX11_side_98 : decode cX11_side 98 = .ok (.getfield 109, 3) := by decide +kernel
theorem dX11_side_101 : decode cX11_side 101 = .ok (.aload_n 0, 1) := by decide +kernel
theorem dX11_side_102 : decode cX11_side 102 = .ok (.getfield 58, 3) := by decide +kernel
theorem dX11_side_105 : decode cX11_side 105 = .ok (.iload 5, 2) := by decide +kernel
theorem dX11_side_107 : decode cX11_side 107 = .ok (.iaload, 1) := by decide +kernel
theorem dX11_side_108 : decode cX11_side 108 = .ok (.iconst 1, 1) := by decide +kernel
theorem dX11_side_109 : decode cX11_side 109 = .ok (.bastore, 1) := by decide +kernel
theorem dX11_side_110 : decode cX11_side 110 = .ok (.aload_n 0, 1) := by decide +kernel
theorem dX11_side_111 : decode cX11_side 111 = .ok (.getfield 109, 3) := by decide +kernel
theorem dX11_side_114 : decode cX11_side 114 = .ok (.aload_n 0, 1) := by decide +kernel
theorem dX11_side_115 : decode cX11_side 115 = .ok (.getfield 61, 3) := by decide +kernel
theorem dX11_side_118 : decode cX11_side 118 = .ok (.iload 5, 2) := by decide +kernel
theorem dX11_side_120 : decode cX11_side 120 = .ok (.iaload, 1) := by decide +kernel
theorem dX11_side_121 : decode cX11_side 121 = .ok (.iconst 1, 1) := by decide +kernel
theorem dX11_side_122 : decode cX11_side 122 = .ok (.bastore, 1) := by decide +kernel
theorem dX11_side_123 : decode cX11_side 123 = .ok (.iconst 1, 1) := by decide +kernel
theorem dX11_side_124 : decode cX11_side 124 = .ok (.istore_n 3, 1) := by decide +kernel
theorem dX11_side_125 : decode cX11_side 125 = .ok (.iinc 4 1, 3) := by decide +kernel
theorem dX11_side_128 : decode cX11_side 128 = .ok (.goto (-85), 3) := by decide +kernel
theorem dX11_side_131 : decode cX11_side 131 = .ok (.goto (-97), 3) := by decide +kernel
theorem dX11_side_134 : decode cX11_side 134 = .ok (.return_, 1) := by decide +kernel
theorem dX11_peels_0 : decode cX11_peels 0 = .ok (.aload_n 0, 1) := by decide +kernel
theorem dX11_peels_1 : decode cX11_peels 1 = .ok (.iconst 0, 1) := by decide +kernel
theorem dX11_peels_2 : decode cX11_peels 2 = .ok (.putfield 333, 3) := by decide +kernel
theorem dX11_peels_5 : decode cX11_peels 5 = .ok (.iconst 0, 1) := by decide +kernel
theorem dX11_peels_6 : decode cX11_peels 6 = .ok (.istore_n 1, 1) := by decide +kernel
theorem dX11_peels_7 : decode cX11_peels 7 = .ok (.iload_n 1, 1) := by decide +kernel
theorem dX11_peels_8 : decode cX11_peels 8 = .ok (.aload_n 0, 1) := by decide +kernel
theorem dX11_peels_9 : decode cX11_peels 9 = .ok (.getfield 327, 3) := by decide +kernel
theorem dX11_peels_12 : decode cX11_peels 12 = .ok (.if_icmp .ge 120, 3) := by decide +kernel
theorem dX11_peels_15 : decode cX11_peels 15 = .ok (.aload_n 0, 1) := by decide +kernel
theorem dX11_peels_16 : decode cX11_peels 16 = .ok (.getfield 100, 3) := by decide +kernel
theorem dX11_peels_19 : decode cX11_peels 19 = .ok (.iload_n 1, 1) := by decide +kernel
theorem dX11_peels_20 : decode cX11_peels 20 = .ok (.iaload, 1) := by decide +kernel
theorem dX11_peels_21 : decode cX11_peels 21 = .ok (.istore_n 2, 1) := by decide +kernel
theorem dX11_peels_22 : decode cX11_peels 22 = .ok (.aload_n 0, 1) := by decide +kernel
theorem dX11_peels_23 : decode cX11_peels 23 = .ok (.aload_n 0, 1) := by decide +kernel
theorem dX11_peels_24 : decode cX11_peels 24 = .ok (.getfield 58, 3) := by decide +kernel
theorem dX11_peels_27 : decode cX11_peels 27 = .ok (.iload_n 2, 1) := by decide +kernel
theorem dX11_peels_28 : decode cX11_peels 28 = .ok (.iaload, 1) := by decide +kernel
theorem dX11_peels_29 : decode cX11_peels 29 = .ok (.iload_n 2, 1) := by decide +kernel
theorem dX11_peels_30 : decode cX11_peels 30 = .ok (.invokevirtual 336, 3) := by decide +kernel
theorem dX11_peels_33 : decode cX11_peels 33 = .ok (.aload_n 0, 1) := by decide +kernel
theorem dX11_peels_34 : decode cX11_peels 34 = .ok (.getfield 109, 3) := by decide +kernel
theorem dX11_peels_37 : decode cX11_peels 37 = .ok (.aload_n 0, 1) := by decide +kernel
theorem dX11_peels_38 : decode cX11_peels 38 = .ok (.getfield 254, 3) := by decide +kernel
theorem dX11_peels_41 : decode cX11_peels 41 = .ok (.baload, 1) := by decide +kernel
theorem dX11_peels_42 : decode cX11_peels 42 = .ok (.ifCond .eq 14, 3) := by decide +kernel
theorem dX11_peels_45 : decode cX11_peels 45 = .ok (.aload_n 0, 1) := by decide +kernel
theorem dX11_peels_46 : decode cX11_peels 46 = .ok (.aload_n 0, 1) := by decide +kernel
theorem dX11_peels_47 : decode cX11_peels 47 = .ok (.getfield 61, 3) := by decide +kernel
theorem dX11_peels_50 : decode cX11_peels 50 = .ok (.iload_n 2, 1) := by decide +kernel
theorem dX11_peels_51 : decode cX11_peels 51 = .ok (.iaload, 1) := by decide +kernel
theorem dX11_peels_52 : decode cX11_peels 52 = .ok (.iload_n 2, 1) := by decide +kernel
theorem dX11_peels_53 : decode cX11_peels 53 = .ok (.invokevirtual 336, 3) := by decide +kernel
theorem dX11_peels_56 : decode cX11_peels 56 = .ok (.iconst 0, 1) := by decide +kernel
theorem dX11_peels_57 : decode cX11_peels 57 = .ok (.istore_n 3, 1) := by decide +kernel
theorem dX11_peels_58 : decode cX11_peels 58 = .ok (.iconst 0, 1) := by decide +kernel
theorem dX11_peels_59 : decode cX11_peels 59 = .ok (.istore 4, 2) := by decide +kernel
theorem dX11_peels_61 : decode cX11_peels 61 = .ok (.iload 4, 2) := by decide +kernel
theorem dX11_peels_63 : decode cX11_peels 63 = .ok (.aload_n 0, 1) := by decide +kernel
theorem dX11_peels_64 : decode cX11_peels 64 = .ok (.getfield 257, 3) := by decide +kernel
theorem dX11_peels_67 : decode cX11_peels 67 = .ok (.if_icmp .ge 32, 3) := by decide +kernel
theorem dX11_peels_70 : decode cX11_peels 70 = .ok (.iload_n 3, 1) := by decide +kernel
theorem dX11_peels_71 : decode cX11_peels 71 = .ok (.aload_n 0, 1) := by decide +kernel
theorem dX11_peels_72 : decode cX11_peels 72 = .ok (.getfield 109, 3) := by decide +kernel
theorem dX11_peels_75 : decode cX11_peels 75 = .ok (.aload_n 0, 1) := by decide +kernel
theorem dX11_peels_76 : decode cX11_peels 76 = .ok (.getfield 70, 3) := by decide +kernel
theorem dX11_peels_79 : decode cX11_peels 79 = .ok (.iload 4, 2) := by decide +kernel
theorem dX11_peels_81 : decode cX11_peels 81 = .ok (.iaload, 1) := by decide +kernel
theorem dX11_peels_82 : decode cX11_peels 82 = .ok (.baload, 1) := by decide +kernel
theorem dX11_peels_83 : decode cX11_peels 83 = .ok (.ifCond .eq 7, 3) := by decide +kernel
theorem dX11_peels_86 : decode cX11_peels 86 = .ok (.iconst 1, 1) := by decide +kernel
theorem dX11_peels_87 : decode cX11_peels 87 = .ok (.goto 4, 3) := by decide +kernel
theorem dX11_peels_90 : decode cX11_peels 90 = .ok (.iconst 0, 1) := by decide +kernel
theorem dX11_peels_91 : decode cX11_peels 91 = .ok (.ixor, 1) := by decide +kernel
theorem dX11_peels_92 : decode cX11_peels 92 = .ok (.istore_n 3, 1) := by decide +kernel
theorem dX11_peels_93 : decode cX11_peels 93 = .ok (.iinc 4 1, 3) := by decide +kernel
theorem dX11_peels_96 : decode cX11_peels 96 = .ok (.goto (-35), 3) := by decide +kernel
theorem dX11_peels_99 : decode cX11_peels 99 = .ok (.iload_n 3, 1) := by decide +kernel
theorem dX11_peels_100 : decode cX11_peels 100 = .ok (.ifCond .ne 6, 3) := by decide +kernel
theorem dX11_peels_103 : decode cX11_peels 103 = .ok (.goto 23, 3) := by decide +kernel
theorem dX11_peels_106 : decode cX11_peels 106 = .ok (.aload_n 0, 1) := by decide +kernel
theorem dX11_peels_107 : decode cX11_peels 107 = .ok (.getfield 103, 3) := by decide +kernel
theorem dX11_peels_110 : decode cX11_peels 110 = .ok (.aload_n 0, 1) := by decide +kernel
theorem dX11_peels_111 : decode cX11_peels 111 = .ok (.getfield 333, 3) := by decide +kernel
theorem dX11_peels_114 : decode cX11_peels 114 = .ok (.iload_n 2, 1) := by decide +kernel
theorem dX11_peels_115 : decode cX11_peels 115 = .ok (.iastore, 1) := by decide +kernel
theorem dX11_peels_116 : decode cX11_peels 116 = .ok (.aload_n 0, 1) := by decide +kernel
theorem dX11_peels_117 : decode cX11_peels 117 = .ok (.dup, 1) := by decide +kernel
theorem dX11_peels_118 : decode cX11_peels 118 = .ok (.getfield 333, 3) := by decide +kernel
theorem dX11_peels_121 : decode cX11_peels 121 = .ok (.iconst 1, 1) := by decide +kernel
theorem dX11_peels_122 : decode cX11_peels 122 = .ok (.iadd, 1) := by decide +kernel
theorem dX11_peels_123 : decode cX11_peels 123 = .ok (.putfield 333, 3) := by decide +kernel
theorem dX11_peels_126 : decode cX11_peels 126 = .ok (.iinc 1 1, 3) := by decide +kernel
theorem dX11_peels_129 : decode cX11_peels 129 = .ok (.goto (-122), 3) := by decide +kernel
theorem dX11_peels_132 : decode cX11_peels 132 = .ok (.return_, 1) := by decide +kernel
theorem dX11_grow_0 : decode cX11_grow 0 = .ok (.aload_n 0, 1) := by decide +kernel
theorem dX11_grow_1 : decode cX11_grow 1 = .ok (.iconst 0, 1) := by decide +kernel
theorem dX11_grow_2 : decode cX11_grow 2 = .ok (.putfield 1, 3) := by decide +kernel
theorem dX11_grow_5 : decode cX11_grow 5 = .ok (.iload_n 1, 1) := by decide +kernel
theorem dX11_grow_6 : decode cX11_grow 6 = .ok (.invokestatic 165, 3) := by decide +kernel
theorem dX11_grow_9 : decode cX11_grow 9 = .ok (.ifCond .ne 5, 3) := by decide +kernel
theorem dX11_grow_12 : decode cX11_grow 12 = .ok (.iconst (-1), 1) := by decide +kernel
theorem dX11_grow_13 : decode cX11_grow 13 = .ok (.ireturn, 1) := by decide +kernel
theorem dX11_grow_14 : decode cX11_grow 14 = .ok (.aload_n 0, 1) := by decide +kernel
theorem dX11_grow_15 : decode cX11_grow 15 = .ok (.iload_n 1, 1) := by decide +kernel
theorem dX11_grow_16 : decode cX11_grow 16 = .ok (.invokevirtual 339, 3) := by decide +kernel
theorem dX11_grow_19 : decode cX11_grow 19 = .ok (.aload_n 0, 1) := by decide +kernel
theorem dX11_grow_20 : decode cX11_grow 20 = .ok (.iconst 1, 1) := by decide +kernel
theorem dX11_grow_21 : decode cX11_grow 21 = .ok (.putfield 342, 3) := by decide +kernel
theorem dX11_grow_24 : decode cX11_grow 24 = .ok (.aload_n 0, 1) := by decide +kernel
theorem dX11_grow_25 : decode cX11_grow 25 = .ok (.getfield 112, 3) := by decide +kernel
theorem dX11_grow_28 : decode cX11_grow 28 = .ok (.iconst 0, 1) := by decide +kernel
theorem dX11_grow_29 : decode cX11_grow 29 = .ok (.aload_n 0, 1) := by decide +kernel
theorem dX11_grow_30 : decode cX11_grow 30 = .ok (.getfield 311, 3) := by decide +kernel
theorem dX11_grow_33 : decode cX11_grow 33 = .ok (.iastore, 1) := by decide +kernel
theorem dX11_grow_34 : decode cX11_grow 34 = .ok (.aload_n 0, 1) := by decide +kernel
theorem dX11_grow_35 : decode cX11_grow 35 = .ok (.getfield 112, 3) := by decide +kernel
theorem dX11_grow_38 : decode cX11_grow 38 = .ok (.iconst 1, 1) := by decide +kernel
theorem dX11_grow_39 : decode cX11_grow 39 = .ok (.aload_n 0, 1) := by decide +kernel
theorem dX11_grow_40 : decode cX11_grow 40 = .ok (.getfield 324, 3) := by decide +kernel
theorem dX11_grow_43 : decode cX11_grow 43 = .ok (.iastore, 1) := by decide +kernel
theorem dX11_grow_44 : decode cX11_grow 44 = .ok (.aload_n 0, 1) := by decide +kernel
theorem dX11_grow_45 : decode cX11_grow 45 = .ok (.getfield 112, 3) := by decide +kernel
theorem dX11_grow_48 : decode cX11_grow 48 = .ok (.iconst 2, 1) := by decide +kernel
theorem dX11_grow_49 : decode cX11_grow 49 = .ok (.aload_n 0, 1) := by decide +kernel
theorem dX11_grow_50 : decode cX11_grow 50 = .ok (.getfield 327, 3) := by decide +kernel
theorem dX11_grow_53 : decode cX11_grow 53 = .ok (.iastore, 1) := by decide +kernel
theorem dX11_grow_54 : decode cX11_grow 54 = .ok (.aload_n 0, 1) := by decide +kernel
theorem dX11_grow_55 : decode cX11_grow 55 = .ok (.getfield 112, 3) := by decide +kernel
theorem dX11_grow_58 : decode cX11_grow 58 = .ok (.iconst 3, 1) := by decide +kernel
theorem dX11_grow_59 : decode cX11_grow 59 = .ok (.aload_n 0, 1) := by decide +kernel
theorem dX11_grow_60 : decode cX11_grow 60 = .ok (.getfield 333, 3) := by decide +kernel
theorem dX11_grow_63 : decode cX11_grow 63 = .ok (.iastore, 1) := by decide +kernel
theorem dX11_grow_64 : decode cX11_grow 64 = .ok (.iconst 0, 1) := by decide +kernel
theorem dX11_grow_65 : decode cX11_grow 65 = .ok (.istore_n 2, 1) := by decide +kernel
theorem dX11_grow_66 : decode cX11_grow 66 = .ok (.iconst 0, 1) := by decide +kernel
theorem dX11_grow_67 : decode cX11_grow 67 = .ok (.istore_n 3, 1) := by decide +kernel
theorem dX11_grow_68 : decode cX11_grow 68 = .ok (.iload_n 3, 1) := by decide +kernel
theorem dX11_grow_69 : decode cX11_grow 69 = .ok (.aload_n 0, 1) := by decide +kernel
theorem dX11_grow_70 : decode cX11_grow 70 = .ok (.getfield 333, 3) := by decide +kernel
theorem dX11_grow_73 : decode cX11_grow 73 = .ok (.if_icmp .ge 35, 3) := by decide +kernel
theorem dX11_grow_76 : decode cX11_grow 76 = .ok (.aload_n 0, 1) := by decide +kernel
theorem dX11_grow_77 : decode cX11_grow 77 = .ok (.getfield 115, 3) := by decide +kernel
theorem dX11_grow_80 : decode cX11_grow 80 = .ok (.iload_n 3, 1) := by decide +kernel
theorem dX11_grow_81 : decode cX11_grow 81 = .ok (.aload_n 0, 1) := by decide +kernel
theorem dX11_grow_82 : decode cX11_grow 82 = .ok (.getfield 103, 3) := by decide +kernel
theorem dX11_grow_85 : decode cX11_grow 85 = .ok (.iload_n 3, 1) := by decide +kernel
theorem dX11_grow_86 : decode cX11_grow 86 = .ok (.iaload, 1) := by decide +kernel
theorem dX11_grow_87 : decode cX11_grow 87 = .ok (.iastore, 1) := by decide +kernel
theorem dX11_grow_88 : decode cX11_grow 88 = .ok (.iload_n 2, 1) := by decide +kernel
theorem dX11_grow_89 : decode cX11_grow 89 = .ok (.aload_n 0, 1) := by decide +kernel
theorem dX11_grow_90 : decode cX11_grow 90 = .ok (.getfield 64, 3) := by decide +kernel
theorem dX11_grow_93 : decode cX11_grow 93 = .ok (.aload_n 0, 1) := by decide +kernel
theorem dX11_grow_94 : decode cX11_grow 94 = .ok (.getfield 103, 3) := by decide +kernel
theorem dX11_grow_97 : decode cX11_grow 97 = .ok (.iload_n 3, 1) := by decide +kernel
theorem dX11_grow_98 : decode cX11_grow 98 = .ok (.iaload, 1) := by decide +kernel
theorem dX11_grow_99 : decode cX11_grow 99 = .ok (.iaload, 1) := by decide +kernel
theorem dX11_grow_100 : decode cX11_grow 100 = .ok (.iadd, 1) := by decide +kernel
theorem dX11_grow_101 : decode cX11_grow 101 = .ok (.istore_n 2, 1) := by decide +kernel
theorem dX11_grow_102 : decode cX11_grow 102 = .ok (.iinc 3 1, 3) := by decide +kernel
theorem dX11_grow_105 : decode cX11_grow 105 = .ok (.goto (-37), 3) := by decide +kernel
theorem dX11_grow_108 : decode cX11_grow 108 = .ok (.iload_n 2, 1) := by decide +kernel
theorem dX11_grow_109 : decode cX11_grow 109 = .ok (.ireturn, 1) := by decide +kernel
theorem dX11_grown_0 : decode cX11_grown 0 = .ok (.aload_n 0, 1) := by decide +kernel
theorem dX11_grown_1 : decode cX11_grown 1 = .ok (.iconst 0, 1) := by decide +kernel
theorem dX11_grown_2 : decode cX11_grown 2 = .ok (.putfield 1, 3) := by decide +kernel
theorem dX11_grown_5 : decode cX11_grown 5 = .ok (.aload_n 0, 1) := by decide +kernel
theorem dX11_grown_6 : decode cX11_grown 6 = .ok (.getfield 342, 3) := by decide +kernel
theorem dX11_grown_9 : decode cX11_grown 9 = .ok (.ifCond .eq 21, 3) := by decide +kernel
theorem dX11_grown_12 : decode cX11_grown 12 = .ok (.iload_n 1, 1) := by decide +kernel
theorem dX11_grown_13 : decode cX11_grown 13 = .ok (.iconst 0, 1) := by decide +kernel
theorem dX11_grown_14 : decode cX11_grown 14 = .ok (.iconst 3, 1) := by decide +kernel
theorem dX11_grown_15 : decode cX11_grown 15 = .ok (.invokestatic 144, 3) := by decide +kernel
theorem dX11_grown_18 : decode cX11_grown 18 = .ok (.ifCond .eq 12, 3) := by decide +kernel
theorem dX11_grown_21 : decode cX11_grown 21 = .ok (.aload_n 0, 1) := by decide +kernel
theorem dX11_grown_22 : decode cX11_grown 22 = .ok (.getfield 112, 3) := by decide +kernel
theorem dX11_grown_25 : decode cX11_grown 25 = .ok (.iload_n 1, 1) := by decide +kernel
theorem dX11_grown_26 : decode cX11_grown 26 = .ok (.iaload, 1) := by decide +kernel
theorem dX11_grown_27 : decode cX11_grown 27 = .ok (.goto 4, 3) := by decide +kernel
theorem dX11_grown_30 : decode cX11_grown 30 = .ok (.iconst (-1), 1) := by decide +kernel
theorem dX11_grown_31 : decode cX11_grown 31 = .ok (.ireturn, 1) := by decide +kernel
theorem dX11_peeledAt_0 : decode cX11_peeledAt 0 = .ok (.aload_n 0, 1) := by decide +kernel
theorem dX11_peeledAt_1 : decode cX11_peeledAt 1 = .ok (.iconst 0, 1) := by decide +kernel
theorem dX11_peeledAt_2 : decode cX11_peeledAt 2 = .ok (.putfield 1, 3) := by decide +kernel
theorem dX11_peeledAt_5 : decode cX11_peeledAt 5 = .ok (.iload_n 1, 1) := by decide +kernel
theorem dX11_peeledAt_6 : decode cX11_peeledAt 6 = .ok (.iconst 0, 1) := by decide +kernel
theorem dX11_peeledAt_7 : decode cX11_peeledAt 7 = .ok (.aload_n 0, 1) := by decide +kernel
theorem dX11_peeledAt_8 : decode cX11_peeledAt 8 = .ok (.getfield 342, 3) := by decide +kernel
theorem dX11_peeledAt_11 : decode cX11_peeledAt 11 = .ok (.ifCond .eq 14, 3) := by decide +kernel
theorem dX11_peeledAt_14 : decode cX11_peeledAt 14 = .ok (.aload_n 0, 1) := by decide +kernel
theorem dX11_peeledAt_15 : decode cX11_peeledAt 15 = .ok (.getfield 112, 3) := by decide +kernel
theorem dX11_peeledAt_18 : decode cX11_peeledAt 18 = .ok (.iconst 3, 1) := by decide +kernel
theorem dX11_peeledAt_19 : decode cX11_peeledAt 19 = .ok (.iaload, 1) := by decide +kernel
theorem dX11_peeledAt_20 : decode cX11_peeledAt 20 = .ok (.iconst 1, 1) := by decide +kernel
theorem dX11_peeledAt_21 : decode cX11_peeledAt 21 = .ok (.isub, 1) := by decide +kernel
theorem dX11_peeledAt_22 : decode cX11_peeledAt 22 = .ok (.goto 4, 3) := by decide +kernel
theorem dX11_peeledAt_25 : decode cX11_peeledAt 25 = .ok (.iconst (-1), 1) := by decide +kernel
theorem dX11_peeledAt_26 : decode cX11_peeledAt 26 = .ok (.invokestatic 144, 3) := by decide +kernel
theorem dX11_peeledAt_29 : decode cX11_peeledAt 29 = .ok (.ifCond .eq 12, 3) := by decide +kernel
theorem dX11_peeledAt_32 : decode cX11_peeledAt 32 = .ok (.aload_n 0, 1) := by decide +kernel
theorem dX11_peeledAt_33 : decode cX11_peeledAt 33 = .ok (.getfield 115, 3) := by decide +kernel
theorem dX11_peeledAt_36 : decode cX11_peeledAt 36 = .ok (.iload_n 1, 1) := by decide +kernel
theorem dX11_peeledAt_37 : decode cX11_peeledAt 37 = .ok (.iaload, 1) := by decide +kernel
theorem dX11_peeledAt_38 : decode cX11_peeledAt 38 = .ok (.goto 4, 3) := by decide +kernel
theorem dX11_peeledAt_41 : decode cX11_peeledAt 41 = .ok (.iconst (-1), 1) := by decide +kernel
theorem dX11_peeledAt_42 : decode cX11_peeledAt 42 = .ok (.ireturn, 1) := by decide +kernel
theorem dX11_goesWay_0 : decode cX11_goesWay 0 = .ok (.iconst 0, 1) := by decide +kernel
theorem dX11_goesWay_1 : decode cX11_goesWay 1 = .ok (.istore_n 1, 1) := by decide +kernel
theorem dX11_goesWay_2 : decode cX11_goesWay 2 = .ok (.iload_n 1, 1) := by decide +kernel
theorem dX11_goesWay_3 : decode cX11_goesWay 3 = .ok (.aload_n 0, 1) := by decide +kernel
theorem dX11_goesWay_4 : decode cX11_goesWay 4 = .ok (.getfield 264, 3) := by decide +kernel
theorem dX11_goesWay_7 : decode cX11_goesWay 7 = .ok (.if_icmp .ge 39, 3) := by decide +kernel
theorem dX11_goesWay_10 : decode cX11_goesWay 10 = .ok (.aload_n 0, 1) := by decide +kernel
theorem dX11_goesWay_11 : decode cX11_goesWay 11 = .ok (.getfield 118, 3) := by decide +kernel
theorem dX11_goesWay_14 : decode cX11_goesWay 14 = .ok (.aload_n 0, 1) := by decide +kernel
theorem dX11_goesWay_15 : decode cX11_goesWay 15 = .ok (.getfield 73, 3) := by decide +kernel
theorem dX11_goesWay_18 : decode cX11_goesWay 18 = .ok (.iload_n 1, 1) := by decide +kernel
theorem dX11_goesWay_19 : decode cX11_goesWay 19 = .ok (.iaload, 1) := by decide +kernel
theorem dX11_goesWay_20 : decode cX11_goesWay 20 = .ok (.aload_n 0, 1) := by decide +kernel
theorem dX11_goesWay_21 : decode cX11_goesWay 21 = .ok (.getfield 118, 3) := by decide +kernel
theorem dX11_goesWay_24 : decode cX11_goesWay 24 = .ok (.aload_n 0, 1) := by decide +kernel
theorem dX11_goesWay_25 : decode cX11_goesWay 25 = .ok (.getfield 73, 3) := by decide +kernel
theorem dX11_goesWay_28 : decode cX11_goesWay 28 = .ok (.iload_n 1, 1) := by decide +kernel
theorem dX11_goesWay_29 : decode cX11_goesWay 29 = .ok (.iaload, 1) := by decide +kernel
theorem dX11_goesWay_30 : decode cX11_goesWay 30 = .ok (.baload, 1) := by decide +kernel
theorem dX11_goesWay_31 : decode cX11_goesWay 31 = .ok (.ifCond .ne 7, 3) := by decide +kernel
theorem dX11_goesWay_34 : decode cX11_goesWay 34 = .ok (.iconst 1, 1) := by decide +kernel
theorem dX11_goesWay_35 : decode cX11_goesWay 35 = .ok (.goto 4, 3) := by decide +kernel
theorem dX11_goesWay_38 : decode cX11_goesWay 38 = .ok (.iconst 0, 1) := by decide +kernel
theorem dX11_goesWay_39 : decode cX11_goesWay 39 = .ok (.bastore, 1) := by decide +kernel
theorem dX11_goesWay_40 : decode cX11_goesWay 40 = .ok (.iinc 1 1, 3) := by decide +kernel
theorem dX11_goesWay_43 : decode cX11_goesWay 43 = .ok (.goto (-41), 3) := by decide +kernel
theorem dX11_goesWay_46 : decode cX11_goesWay 46 = .ok (.return_, 1) := by decide +kernel
theorem dX11_lays__0 : decode cX11_lays_ 0 = .ok (.iload_n 2, 1) := by decide +kernel
theorem dX11_lays__1 : decode cX11_lays_ 1 = .ok (.ifCond .ne 13, 3) := by decide +kernel
theorem dX11_lays__4 : decode cX11_lays_ 4 = .ok (.aload_n 0, 1) := by decide +kernel
theorem dX11_lays__5 : decode cX11_lays_ 5 = .ok (.iload_n 1, 1) := by decide +kernel
theorem dX11_lays__6 : decode cX11_lays_ 6 = .ok (.invokevirtual 299, 3) := by decide +kernel
theorem dX11_lays__9 : decode cX11_lays_ 9 = .ok (.ifCond .ne 5, 3) := by decide +kernel
theorem dX11_lays__12 : decode cX11_lays_ 12 = .ok (.iconst 0, 1) := by decide +kernel
theorem dX11_lays__13 : decode cX11_lays_ 13 = .ok (.ireturn, 1) := by decide +kernel
theorem dX11_lays__14 : decode cX11_lays_ 14 = .ok (.iload_n 2, 1) := by decide +kernel
theorem dX11_lays__15 : decode cX11_lays_ 15 = .ok (.iconst 1, 1) := by decide +kernel
theorem dX11_lays__16 : decode cX11_lays_ 16 = .ok (.if_icmp .ne 8, 3) := by decide +kernel
theorem dX11_lays__19 : decode cX11_lays_ 19 = .ok (.aload_n 0, 1) := by decide +kernel
theorem dX11_lays__20 : decode cX11_lays_ 20 = .ok (.iload_n 1, 1) := by decide +kernel
theorem dX11_lays__21 : decode cX11_lays_ 21 = .ok (.invokevirtual 339, 3) := by decide +kernel
theorem dX11_lays__24 : decode cX11_lays_ 24 = .ok (.iconst 0, 1) := by decide +kernel
theorem dX11_lays__25 : decode cX11_lays_ 25 = .ok (.istore_n 3, 1) := by decide +kernel
theorem dX11_lays__26 : decode cX11_lays_ 26 = .ok (.iload_n 3, 1) := by decide +kernel
theorem dX11_lays__27 : decode cX11_lays_ 27 = .ok (.aload_n 0, 1) := by decide +kernel
theorem dX11_lays__28 : decode cX11_lays_ 28 = .ok (.getfield 251, 3) := by decide +kernel
theorem dX11_lays__31 : decode cX11_lays_ 31 = .ok (.if_icmp .ge 16, 3) := by decide +kernel
theorem dX11_lays__34 : decode cX11_lays_ 34 = .ok (.aload_n 0, 1) := by decide +kernel
theorem dX11_lays__35 : decode cX11_lays_ 35 = .ok (.getfield 118, 3) := by decide +kernel
theorem dX11_lays__38 : decode cX11_lays_ 38 = .ok (.iload_n 3, 1) := by decide +kernel
theorem dX11_lays__39 : decode cX11_lays_ 39 = .ok (.iconst 0, 1) := by decide +kernel
theorem dX11_lays__40 : decode cX11_lays_ 40 = .ok (.bastore, 1) := by decide +kernel
theorem dX11_lays__41 : decode cX11_lays_ 41 = .ok (.iinc 3 1, 3) := by decide +kernel
theorem dX11_lays__44 : decode cX11_lays_ 44 = .ok (.goto (-18), 3) := by decide +kernel
theorem dX11_lays__47 : decode cX11_lays_ 47 = .ok (.iconst 0, 1) := by decide +kernel
theorem dX11_lays__48 : decode cX11_lays_ 48 = .ok (.istore_n 3, 1) := by decide +kernel
theorem dX11_lays__49 : decode cX11_lays_ 49 = .ok (.iload_n 3, 1) := by decide +kernel
theorem dX11_lays__50 : decode cX11_lays_ 50 = .ok (.aload_n 0, 1) := by decide +kernel
theorem dX11_lays__51 : decode cX11_lays_ 51 = .ok (.getfield 333, 3) := by decide +kernel
theorem dX11_lays__54 : decode cX11_lays_ 54 = .ok (.if_icmp .ge 26, 3) := by decide +kernel
theorem dX11_lays__57 : decode cX11_lays_ 57 = .ok (.iload_n 2, 1) := by decide +kernel
theorem dX11_lays__58 : decode cX11_lays_ 58 = .ok (.iconst 1, 1) := by decide +kernel
theorem dX11_lays__59 : decode cX11_lays_ 59 = .ok (.if_icmp .ne 21, 3) := by decide +kernel
theorem dX11_lays__62 : decode cX11_lays_ 62 = .ok (.aload_n 0, 1) := by decide +kernel
theorem dX11_lays__63 : decode cX11_lays_ 63 = .ok (.getfield 118, 3) := by decide +kernel
theorem dX11_lays__66 : decode cX11_lays_ 66 = .ok (.aload_n 0, 1) := by decide +kernel
theorem dX11_lays__67 : decode cX11_lays_ 67 = .ok (.getfield 103, 3) := by decide +kernel
theorem dX11_lays__70 : decode cX11_lays_ 70 = .ok (.iload_n 3, 1) := by decide +kernel
theorem dX11_lays__71 : decode cX11_lays_ 71 = .ok (.iaload, 1) := by decide +kernel
theorem dX11_lays__72 : decode cX11_lays_ 72 = .ok (.iconst 1, 1) := by decide +kernel
theorem dX11_lays__73 : decode cX11_lays_ 73 = .ok (.bastore, 1) := by decide +kernel
theorem dX11_lays__74 : decode cX11_lays_ 74 = .ok (.iinc 3 1, 3) := by decide +kernel
theorem dX11_lays__77 : decode cX11_lays_ 77 = .ok (.goto (-28), 3) := by decide +kernel
theorem dX11_lays__80 : decode cX11_lays_ 80 = .ok (.iload_n 2, 1) := by decide +kernel
theorem dX11_lays__81 : decode cX11_lays_ 81 = .ok (.iconst 1, 1) := by decide +kernel
theorem dX11_lays__82 : decode cX11_lays_ 82 = .ok (.if_icmp .ne 5, 3) := by decide +kernel
theorem dX11_lays__85 : decode cX11_lays_ 85 = .ok (.iconst 1, 1) := by decide +kernel
theorem dX11_lays__86 : decode cX11_lays_ 86 = .ok (.ireturn, 1) := by decide +kernel
theorem dX11_lays__87 : decode cX11_lays_ 87 = .ok (.aload_n 0, 1) := by decide +kernel
theorem dX11_lays__88 : decode cX11_lays_ 88 = .ok (.invokevirtual 302, 3) := by decide +kernel
theorem dX11_lays__91 : decode cX11_lays_ 91 = .ok (.iconst 0, 1) := by decide +kernel
theorem dX11_lays__92 : decode cX11_lays_ 92 = .ok (.istore_n 3, 1) := by decide +kernel
theorem dX11_lays__93 : decode cX11_lays_ 93 = .ok (.iload_n 3, 1) := by decide +kernel
theorem dX11_lays__94 : decode cX11_lays_ 94 = .ok (.aload_n 0, 1) := by decide +kernel
theorem dX11_lays__95 : decode cX11_lays_ 95 = .ok (.getfield 257, 3) := by decide +kernel
theorem dX11_lays__98 : decode cX11_lays_ 98 = .ok (.if_icmp .ge 68, 3) := by decide +kernel
theorem dX11_lays__101 : decode cX11_lays_ 101 = .ok (.aload_n 0, 1) := by decide +kernel
theorem dX11_lays__102 : decode cX11_lays_ 102 = .ok (.getfield 85, 3) := by decide +kernel
theorem dX11_lays__105 : decode cX11_lays_ 105 = .ok (.iload_n 3, 1) := by decide +kernel
theorem dX11_lays__106 : decode cX11_lays_ 106 = .ok (.iaload, 1) := by decide +kernel
theorem dX11_lays__107 : decode cX11_lays_ 107 = .ok (.ifCond .lt 16, 3) := by decide +kernel
theorem dX11_lays__110 : decode cX11_lays_ 110 = .ok (.aload_n 0, 1) := by decide +kernel
theorem dX11_lays__111 : decode cX11_lays_ 111 = .ok (.getfield 85, 3) := by decide +kernel
theorem dX11_lays__114 : decode cX11_lays_ 114 = .ok (.iload_n 3, 1) := by decide +kernel
theorem dX11_lays__115 : decode cX11_lays_ 115 = .ok (.iaload, 1) := by decide +kernel
theorem dX11_lays__116 : decode cX11_lays_ 116 = .ok (.iload_n 3, 1) := by decide +kernel
theorem dX11_lays__117 : decode cX11_lays_ 117 = .ok (.if_icmp .ge 6, 3) := by decide +kernel
theorem dX11_lays__120 : decode cX11_lays_ 120 = .ok (.goto 40, 3) := by decide +kernel
theorem dX11_lays__123 : decode cX11_lays_ 123 = .ok (.aload_n 0, 1) := by decide +kernel
theorem dX11_lays__124 : decode cX11_lays_ 124 = .ok (.aload_n 0, 1) := by decide +kernel
theorem dX11_lays__125 : decode cX11_lays_ 125 = .ok (.getfield 85, 3) := by decide +kernel
theorem dX11_lays__128 : decode cX11_lays_ 128 = .ok (.iload_n 3, 1) := by decide +kernel
theorem dX11_lays__129 : decode cX11_lays_ 129 = .ok (.iaload, 1) := by decide +kernel
theorem dX11_lays__130 : decode cX11_lays_ 130 = .ok (.ifCond .ge 7, 3) := by decide +kernel
theorem dX11_lays__133 : decode cX11_lays_ 133 = .ok (.iconst (-1), 1) := by decide +kernel
theorem dX11_lays__134 : decode cX11_lays_ 134 = .ok (.goto 9, 3) := by decide +kernel
theorem dX11_lays__137 : decode cX11_lays_ 137 = .ok (.aload_n 0, 1) := by decide +kernel
theorem dX11_lays__138 : decode cX11_lays_ 138 = .ok (.getfield 85, 3) := by decide +kernel
theorem dX11_lays__141 : decode cX11_lays_ 141 = .ok (.iload_n 3, 1) := by decide +kernel
theorem dX11_lays__142 : decode cX11_lays_ 142 = .ok (.iaload, 1) := by decide +kernel
theorem dX11_lays__143 : decode cX11_lays_ 143 = .ok (.invokevirtual 279, 3) := by decide +kernel
theorem dX11_lays__146 : decode cX11_lays_ 146 = .ok (.aload_n 0, 1) := by decide +kernel
theorem dX11_lays__147 : decode cX11_lays_ 147 = .ok (.aload_n 0, 1) := by decide +kernel
theorem dX11_lays__148 : decode cX11_lays_ 148 = .ok (.getfield 70, 3) := by decide +kernel
theorem dX11_lays__151 : decode cX11_lays_ 151 = .ok (.iload_n 3, 1) := by decide +kernel
theorem dX11_lays__152 : decode cX11_lays_ 152 = .ok (.iaload, 1) := by decide +kernel
theorem dX11_lays__153 : decode cX11_lays_ 153 = .ok (.invokevirtual 282, 3) := by decide +kernel
theorem dX11_lays__156 : decode cX11_lays_ 156 = .ok (.aload_n 0, 1) := by decide +kernel
theorem dX11_lays__157 : decode cX11_lays_ 157 = .ok (.invokevirtual 346, 3) := by decide +kernel
theorem dX11_lays__160 : decode cX11_lays_ 160 = .ok (.iinc 3 1, 3) := by decide +kernel
theorem dX11_lays__163 : decode cX11_lays_ 163 = .ok (.goto (-70), 3) := by decide +kernel
theorem dX11_lays__166 : decode cX11_lays_ 166 = .ok (.iconst 1, 1) := by decide +kernel
theorem dX11_lays__167 : decode cX11_lays_ 167 = .ok (.ireturn, 1) := by decide +kernel
theorem dX11_gone_0 : decode cX11_gone 0 = .ok (.aload_n 0, 1) := by decide +kernel
theorem dX11_gone_1 : decode cX11_gone 1 = .ok (.invokevirtual 148, 3) := by decide +kernel
theorem dX11_gone_4 : decode cX11_gone 4 = .ok (.aload_n 0, 1) := by decide +kernel
theorem dX11_gone_5 : decode cX11_gone 5 = .ok (.getfield 151, 3) := by decide +kernel
theorem dX11_gone_8 : decode cX11_gone 8 = .ok (.iadd, 1) := by decide +kernel
theorem dX11_gone_9 : decode cX11_gone 9 = .ok (.istore_n 3, 1) := by decide +kernel
theorem dX11_gone_10 : decode cX11_gone 10 = .ok (.iconst 0, 1) := by decide +kernel
theorem dX11_gone_11 : decode cX11_gone 11 = .ok (.istore 4, 2) := by decide +kernel
theorem dX11_gone_13 : decode cX11_gone 13 = .ok (.iconst 0, 1) := by decide +kernel
theorem dX11_gone_14 : decode cX11_gone 14 = .ok (.istore 5, 2) := by decide +kernel
theorem dX11_gone_16 : decode cX11_gone 16 = .ok (.iload 5, 2) := by decide +kernel
theorem dX11_gone_18 : decode cX11_gone 18 = .ok (.aload_n 0, 1) := by decide +kernel
theorem dX11_gone_19 : decode cX11_gone 19 = .ok (.getfield 251, 3) := by decide +kernel
theorem dX11_gone_22 : decode cX11_gone 22 = .ok (.if_icmp .ge 84, 3) := by decide +kernel
theorem dX11_gone_25 : decode cX11_gone 25 = .ok (.iload 5, 2) := by decide +kernel
theorem dX11_gone_27 : decode cX11_gone 27 = .ok (.iload_n 3, 1) := by decide +kernel
theorem dX11_gone_28 : decode cX11_gone 28 = .ok (.irem, 1) := by decide +kernel
theorem dX11_gone_29 : decode cX11_gone 29 = .ok (.istore 6, 2) := by decide +kernel
theorem dX11_gone_31 : decode cX11_gone 31 = .ok (.aload_n 0, 1) := by decide +kernel
theorem dX11_gone_32 : decode cX11_gone 32 = .ok (.getfield 118, 3) := by decide +kernel
theorem dX11_gone_35 : decode cX11_gone 35 = .ok (.iload 5, 2) := by decide +kernel
theorem dX11_gone_37 : decode cX11_gone 37 = .ok (.baload, 1) := by decide +kernel
theorem dX11_gone_38 : decode cX11_gone 38 = .ok (.ifCond .eq 62, 3) := by decide +kernel
theorem dX11_gone_41 : decode cX11_gone 41 = .ok (.iload 6, 2) := by decide +kernel
theorem dX11_gone_43 : decode cX11_gone 43 = .ok (.aload_n 0, 1) := by decide +kernel
theorem dX11_gone_44 : decode cX11_gone 44 = .ok (.invokevirtual 148, 3) := by decide +kernel
theorem dX11_gone_47 : decode cX11_gone 47 = .ok (.if_icmp .ge 7, 3) := by decide +kernel
theorem dX11_gone_50 : decode cX11_gone 50 = .ok (.iconst 1, 1) := by decide +kernel
theorem dX11_gone_51 : decode cX11_gone 51 = .ok (.goto 4, 3) := by decide +kernel
theorem dX11_gone_54 : decode cX11_gone 54 = .ok (.iconst 0, 1) := by decide +kernel
theorem dX11_gone_55 : decode cX11_gone 55 = .ok (.iload_n 1, 1) := by decide +kernel
theorem dX11_gone_56 : decode cX11_gone 56 = .ok (.if_icmp .eq 6, 3) := by decide +kernel
theorem dX11_gone_59 : decode cX11_gone 59 = .ok (.goto 41, 3) := by decide +kernel
theorem dX11_gone_62 : decode cX11_gone 62 = .ok (.iload_n 1, 1) := by decide +kernel
theorem dX11_gone_63 : decode cX11_gone 63 = .ok (.ifCond .eq 15, 3) := by decide +kernel
theorem dX11_gone_66 : decode cX11_gone 66 = .ok (.iload 4, 2) := by decide +kernel
theorem dX11_gone_68 : decode cX11_gone 68 = .ok (.iconst 1, 1) := by decide +kernel
theorem dX11_gone_69 : decode cX11_gone 69 = .ok (.iload 6, 2) := by decide +kernel
theorem dX11_gone_71 : decode cX11_gone 71 = .ok (.ishl, 1) := by decide +kernel
theorem dX11_gone_72 : decode cX11_gone 72 = .ok (.ixor, 1) := by decide +kernel
theorem dX11_gone_73 : decode cX11_gone 73 = .ok (.istore 4, 2) := by decide +kernel
theorem dX11_gone_75 : decode cX11_gone 75 = .ok (.goto 25, 3) := by decide +kernel
theorem dX11_gone_78 : decode cX11_gone 78 = .ok (.iload 5, 2) := by decide +kernel
theorem dX11_gone_80 : decode cX11_gone 80 = .ok (.iload_n 3, 1) := by decide +kernel
theorem dX11_gone_81 : decode cX11_gone 81 = .ok (.idiv, 1) := by decide +kernel
theorem dX11_gone_82 : decode cX11_gone 82 = .ok (.iload_n 2, 1) := by decide +kernel
theorem dX11_gone_83 : decode cX11_gone 83 = .ok (.if_icmp .ne 17, 3) := by decide +kernel
theorem dX11_gone_86 : decode cX11_gone 86 = .ok (.iload 4, 2) := by decide +kernel
theorem dX11_gone_88 : decode cX11_gone 88 = .ok (.iconst 1, 1) := by decide +kernel
theorem dX11_gone_89 : decode cX11_gone 89 = .ok (.iload 6, 2) := by decide +kernel
theorem dX11_gone_91 : decode cX11_gone 91 = .ok (.aload_n 0, 1) := by decide +kernel
theorem dX11_gone_92 : decode cX11_gone 92 = .ok (.invokevirtual 148, 3) := by decide +kernel
theorem dX11_gone_95 : decode cX11_gone 95 = .ok (.isub, 1) := by decide +kernel
theorem dX11_gone_96 : decode cX11_gone 96 = .ok (.ishl, 1) := by decide +kernel
theorem dX11_gone_97 : decode cX11_gone 97 = .ok (.ixor, 1) := by decide +kernel
theorem dX11_gone_98 : decode cX11_gone 98 = .ok (.istore 4, 2) := by decide +kernel
theorem dX11_gone_100 : decode cX11_gone 100 = .ok (.iinc 5 1, 3) := by decide +kernel
theorem dX11_gone_103 : decode cX11_gone 103 = .ok (.goto (-87), 3) := by decide +kernel
theorem dX11_gone_106 : decode cX11_gone 106 = .ok (.iload 4, 2) := by decide +kernel
theorem dX11_gone_108 : decode cX11_gone 108 = .ok (.ireturn, 1) := by decide +kernel
theorem dX11_blame_0 : decode cX11_blame 0 = .ok (.aload_n 0, 1) := by decide +kernel
theorem dX11_blame_1 : decode cX11_blame 1 = .ok (.iconst 0, 1) := by decide +kernel
theorem dX11_blame_2 : decode cX11_blame 2 = .ok (.putfield 1, 3) := by decide +kernel
theorem dX11_blame_5 : decode cX11_blame 5 = .ok (.iload_n 1, 1) := by decide +kernel
theorem dX11_blame_6 : decode cX11_blame 6 = .ok (.invokestatic 165, 3) := by decide +kernel
theorem dX11_blame_9 : decode cX11_blame 9 = .ok (.ifCond .eq 37, 3) := by decide +kernel
theorem dX11_blame_12 : decode cX11_blame 12 = .ok (.iload_n 2, 1) := by decide +kernel
theorem dX11_blame_13 : decode cX11_blame 13 = .ok (.iconst 0, 1) := by decide +kernel
theorem dX11_blame_14 : decode cX11_blame 14 = .ok (.iconst 1, 1) := by decide +kernel
theorem dX11_blame_15 : decode cX11_blame 15 = .ok (.invokestatic 144, 3) := by decide +kernel
theorem dX11_blame_18 : decode cX11_blame 18 = .ok (.ifCond .eq 28, 3) := by decide +kernel
theorem dX11_blame_21 : decode cX11_blame 21 = .ok (.iload_n 3, 1) := by decide +kernel
theorem dX11_blame_22 : decode cX11_blame 22 = .ok (.iconst 0, 1) := by decide +kernel
theorem dX11_blame_23 : decode cX11_blame 23 = .ok (.aload_n 0, 1) := by decide +kernel
theorem dX11_blame_24 : decode cX11_blame 24 = .ok (.getfield 13, 3) := by decide +kernel
theorem dX11_blame_27 : decode cX11_blame 27 = .ok (.iconst 1, 1) := by decide +kernel
theorem dX11_blame_28 : decode cX11_blame 28 = .ok (.iaload, 1) := by decide +kernel
theorem dX11_blame_29 : decode cX11_blame 29 = .ok (.iconst 1, 1) := by decide +kernel
theorem dX11_blame_30 : decode cX11_blame 30 = .ok (.isub, 1) := by decide +kernel
theorem dX11_blame_31 : decode cX11_blame 31 = .ok (.invokestatic 144, 3) := by decide +kernel
theorem dX11_blame_34 : decode cX11_blame 34 = .ok (.ifCond .eq 12, 3) := by decide +kernel
theorem dX11_blame_37 : decode cX11_blame 37 = .ok (.aload_n 0, 1) := by decide +kernel
theorem dX11_blame_38 : decode cX11_blame 38 = .ok (.iload_n 1, 1) := by decide +kernel
theorem dX11_blame_39 : decode cX11_blame 39 = .ok (.iload_n 2, 1) := by decide +kernel
theorem dX11_blame_40 : decode cX11_blame 40 = .ok (.invokevirtual 349, 3) := by decide +kernel
theorem dX11_blame_43 : decode cX11_blame 43 = .ok (.ifCond .ne 5, 3) := by decide +kernel
theorem dX11_blame_46 : decode cX11_blame 46 = .ok (.iconst (-1), 1) := by decide +kernel
theorem dX11_blame_47 : decode cX11_blame 47 = .ok (.ireturn, 1) := by decide +kernel
theorem dX11_blame_48 : decode cX11_blame 48 = .ok (.aload_n 0, 1) := by decide +kernel
theorem dX11_blame_49 : decode cX11_blame 49 = .ok (.iconst 0, 1) := by decide +kernel
theorem dX11_blame_50 : decode cX11_blame 50 = .ok (.iload_n 3, 1) := by decide +kernel
theorem dX11_blame_51 : decode cX11_blame 51 = .ok (.invokevirtual 351, 3) := by decide +kernel
theorem dX11_blame_54 : decode cX11_blame 54 = .ok (.ireturn, 1) := by decide +kernel
theorem dX11_chainOf_0 : decode cX11_chainOf 0 = .ok (.aload_n 0, 1) := by decide +kernel
theorem dX11_chainOf_1 : decode cX11_chainOf 1 = .ok (.iload_n 1, 1) := by decide +kernel
theorem dX11_chainOf_2 : decode cX11_chainOf 2 = .ok (.iconst 1, 1) := by decide +kernel
theorem dX11_chainOf_3 : decode cX11_chainOf 3 = .ok (.if_icmp .ne 7, 3) := by decide +kernel
theorem dX11_chainOf_6 : decode cX11_chainOf 6 = .ok (.iconst 1, 1) := by decide +kernel
theorem dX11_chainOf_7 : decode cX11_chainOf 7 = .ok (.goto 4, 3) := by decide +kernel
theorem dX11_chainOf_10 : decode cX11_chainOf 10 = .ok (.iconst 0, 1) := by decide +kernel
theorem dX11_chainOf_11 : decode cX11_chainOf 11 = .ok (.invokevirtual 173, 3) := by decide +kernel
theorem dX11_chainOf_14 : decode cX11_chainOf 14 = .ok (.ireturn, 1) := by decide +kernel
theorem dX11_weightOf_0 : decode cX11_weightOf 0 = .ok (.iconst 0, 1) := by decide +kernel
theorem dX11_weightOf_1 : decode cX11_weightOf 1 = .ok (.istore_n 2, 1) := by decide +kernel
theorem dX11_weightOf_2 : decode cX11_weightOf 2 = .ok (.iconst 0, 1) := by decide +kernel
theorem dX11_weightOf_3 : decode cX11_weightOf 3 = .ok (.istore_n 3, 1) := by decide +kernel
theorem dX11_weightOf_4 : decode cX11_weightOf 4 = .ok (.iload_n 3, 1) := by decide +kernel
theorem dX11_weightOf_5 : decode cX11_weightOf 5 = .ok (.aload_n 0, 1) := by decide +kernel
theorem dX11_weightOf_6 : decode cX11_weightOf 6 = .ok (.invokevirtual 148, 3) := by decide +kernel
theorem dX11_weightOf_9 : decode cX11_weightOf 9 = .ok (.if_icmp .ge 33, 3) := by decide +kernel
theorem dX11_weightOf_12 : decode cX11_weightOf 12 = .ok (.iload_n 2, 1) := by decide +kernel
theorem dX11_weightOf_13 : decode cX11_weightOf 13 = .ok (.iload_n 1, 1) := by decide +kernel
theorem dX11_weightOf_14 : decode cX11_weightOf 14 = .ok (.iload_n 3, 1) := by decide +kernel
theorem dX11_weightOf_15 : decode cX11_weightOf 15 = .ok (.invokestatic 161, 3) := by decide +kernel
theorem dX11_weightOf_18 : decode cX11_weightOf 18 = .ok (.ifCond .eq 15, 3) := by decide +kernel
theorem dX11_weightOf_21 : decode cX11_weightOf 21 = .ok (.aload_n 0, 1) := by decide +kernel
theorem dX11_weightOf_22 : decode cX11_weightOf 22 = .ok (.getfield 13, 3) := by decide +kernel
theorem dX11_weightOf_25 : decode cX11_weightOf 25 = .ok (.bipush 22, 2) := by decide +kernel
theorem dX11_weightOf_27 : decode cX11_weightOf 27 = .ok (.iload_n 3, 1) := by decide +kernel
theorem dX11_weightOf_28 : decode cX11_weightOf 28 = .ok (.iadd, 1) := by decide +kernel
theorem dX11_weightOf_29 : decode cX11_weightOf 29 = .ok (.iaload, 1) := by decide +kernel
theorem dX11_weightOf_30 : decode cX11_weightOf 30 = .ok (.goto 4, 3) := by decide +kernel
theorem dX11_weightOf_33 : decode cX11_weightOf 33 = .ok (.iconst 0, 1) := by decide +kernel
theorem dX11_weightOf_34 : decode cX11_weightOf 34 = .ok (.iadd, 1) := by decide +kernel
theorem dX11_weightOf_35 : decode cX11_weightOf 35 = .ok (.istore_n 2, 1) := by decide +kernel
theorem dX11_weightOf_36 : decode cX11_weightOf 36 = .ok (.iinc 3 1, 3) := by decide +kernel
theorem dX11_weightOf_39 : decode cX11_weightOf 39 = .ok (.goto (-35), 3) := by decide +kernel
theorem dX11_weightOf_42 : decode cX11_weightOf 42 = .ok (.iload_n 2, 1) := by decide +kernel
theorem dX11_weightOf_43 : decode cX11_weightOf 43 = .ok (.ireturn, 1) := by decide +kernel
theorem dX11_likes_0 : decode cX11_likes 0 = .ok (.iconst 0, 1) := by decide +kernel
theorem dX11_likes_1 : decode cX11_likes 1 = .ok (.istore 4, 2) := by decide +kernel
theorem dX11_likes_3 : decode cX11_likes 3 = .ok (.iload 4, 2) := by decide +kernel
theorem dX11_likes_5 : decode cX11_likes 5 = .ok (.bipush 52, 2) := by decide +kernel
theorem dX11_likes_7 : decode cX11_likes 7 = .ok (.if_icmp .ge 17, 3) := by decide +kernel
theorem dX11_likes_10 : decode cX11_likes 10 = .ok (.aload_n 0, 1) := by decide +kernel
theorem dX11_likes_11 : decode cX11_likes 11 = .ok (.getfield 121, 3) := by decide +kernel
theorem dX11_likes_14 : decode cX11_likes 14 = .ok (.iload 4, 2) := by decide +kernel
theorem dX11_likes_16 : decode cX11_likes 16 = .ok (.iconst 0, 1) := by decide +kernel
theorem dX11_likes_17 : decode cX11_likes 17 = .ok (.iastore, 1) := by decide +kernel
theorem dX11_likes_18 : decode cX11_likes 18 = .ok (.iinc 4 1, 3) := by decide +kernel
theorem dX11_likes_21 : decode cX11_likes 21 = .ok (.goto (-18), 3) := by decide +kernel
theorem dX11_likes_24 : decode cX11_likes 24 = .ok (.aload_n 0, 1) := by decide +kernel
theorem dX11_likes_25 : decode cX11_likes 25 = .ok (.getfield 151, 3) := by decide +kernel
theorem dX11_likes_28 : decode cX11_likes 28 = .ok (.iload_n 3, 1) := by decide +kernel
theorem dX11_likes_29 : decode cX11_likes 29 = .ok (.ifCond .eq 7, 3) := by decide +kernel
theorem dX11_likes_32 : decode cX11_likes 32 = .ok (.iconst 1, 1) := by decide +kernel
theorem dX11_likes_33 : decode cX11_likes 33 = .ok (.goto 4, 3) := by decide +kernel
theorem dX11_likes_36 : decode cX11_likes 36 = .ok (.iconst 0, 1) := by decide +kernel
theorem dX11_likes_37 : decode cX11_likes 37 = .ok (.iadd, 1) := by decide +kernel
theorem dX11_likes_38 : decode cX11_likes 38 = .ok (.istore 4, 2) := by decide +kernel
theorem dX11_likes_40 : decode cX11_likes 40 = .ok (.aload_n 0, 1) := by decide +kernel
theorem dX11_likes_41 : decode cX11_likes 41 = .ok (.iload_n 2, 1) := by decide +kernel
theorem dX11_likes_42 : decode cX11_likes 42 = .ok (.putfield 355, 3) := by decide +kernel
theorem dX11_likes_45 : decode cX11_likes 45 = .ok (.aload_n 0, 1) := by decide +kernel
theorem dX11_likes_46 : decode cX11_likes 46 = .ok (.iload_n 2, 1) := by decide +kernel
theorem dX11_likes_47 : decode cX11_likes 47 = .ok (.putfield 358, 3) := by decide +kernel
theorem dX11_likes_50 : decode cX11_likes 50 = .ok (.aload_n 0, 1) := by decide +kernel
theorem dX11_likes_51 : decode cX11_likes 51 = .ok (.aload_n 0, 1) := by decide +kernel
theorem dX11_likes_52 : decode cX11_likes 52 = .ok (.iload_n 2, 1) := by decide +kernel
theorem dX11_likes_53 : decode cX11_likes 53 = .ok (.invokevirtual 361, 3) := by decide +kernel
theorem dX11_likes_56 : decode cX11_likes 56 = .ok (.putfield 364, 3) := by decide +kernel
theorem dX11_likes_59 : decode cX11_likes 59 = .ok (.iconst 0, 1) := by decide +kernel
theorem dX11_likes_60 : decode cX11_likes 60 = .ok (.istore 5, 2) := by decide +kernel
theorem dX11_likes_62 : decode cX11_likes 62 = .ok (.iload 5, 2) := by decide +kernel
theorem dX11_likes_64 : decode cX11_likes 64 = .ok (.iconst 1, 1) := by decide +kernel
theorem dX11_likes_65 : decode cX11_likes 65 = .ok (.iload 4, 2) := by decide +kernel
theorem dX11_likes_67 : decode cX11_likes 67 = .ok (.ishl, 1) := by decide +kernel
theorem dX11_likes_68 : decode cX11_likes 68 = .ok (.if_icmp .ge 146, 3) := by decide +kernel
theorem dX11_likes_71 : decode cX11_likes 71 = .ok (.iload 5, 2) := by decide +kernel
theorem dX11_likes_73 : decode cX11_likes 73 = .ok (.ifCond .le 50, 3) := by decide +kernel
theorem dX11_likes_76 : decode cX11_likes 76 = .ok (.iload 5, 2) := by decide +kernel
theorem dX11_likes_78 : decode cX11_likes 78 = .ok (.invokestatic 292, 3) := by decide +kernel
theorem dX11_likes_81 : decode cX11_likes 81 = .ok (.istore 6, 2) := by decide +kernel
theorem dX11_likes_83 : decode cX11_likes 83 = .ok (.aload_n 0, 1) := by decide +kernel
theorem dX11_likes_84 : decode cX11_likes 84 = .ok (.dup, 1) := by decide +kernel
theorem dX11_likes_85 : decode cX11_likes 85 = .ok (.getfield 355, 3) := by decide +kernel
theorem dX11_likes_88 : decode cX11_likes 88 = .ok (.iload 6, 2) := by decide +kernel
theorem dX11_likes_90 : decode cX11_likes 90 = .ok (.aload_n 0, 1) := by decide +kernel
theorem dX11_likes_91 : decode cX11_likes 91 = .ok (.getfield 151, 3) := by decide +kernel
theorem dX11_likes_94 : decode cX11_likes 94 = .ok (.if_icmp .ne 11, 3) := by decide +kernel
theorem dX11_likes_97 : decode cX11_likes 97 = .ok (.aload_n 0, 1) := by decide +kernel
theorem dX11_likes_98 : decode cX11_likes 98 = .ok (.iload_n 1, 1) := by decide +kernel
theorem dX11_likes_99 : decode cX11_likes 99 = .ok (.invokevirtual 367, 3) := by decide +kernel
theorem dX11_likes_102 : decode cX11_likes 102 = .ok (.goto 17, 3) := by decide +kernel
theorem dX11_likes_105 : decode cX11_likes 105 = .ok (.aload_n 0, 1) := by decide +kernel
theorem dX11_likes_106 : decode cX11_likes 106 = .ok (.getfield 40, 3) := by decide +kernel
theorem dX11_likes_109 : decode cX11_likes 109 = .ok (.bipush 12, 2) := by decide +kernel
theorem dX11_likes_111 : decode cX11_likes 111 = .ok (.iconst 1, 1) := by decide +kernel
theorem dX11_likes_112 : decode cX11_likes 112 = .ok (.iload_n 1, 1) := by decide +kernel
theorem dX11_likes_113 : decode cX11_likes 113 = .ok (.isub, 1) := by decide +kernel
theorem dX11_likes_114 : decode cX11_likes 114 = .ok (.imul, 1) := by decide +kernel
theorem dX11_likes_115 : decode cX11_likes 115 = .ok (.iload 6, 2) := by decide +kernel
theorem dX11_likes_117 : decode cX11_likes 117 = .ok (.iadd, 1) := by decide +kernel
theorem dX11_likes_118 : decode cX11_likes 118 = .ok (.iaload, 1) := by decide +kernel
theorem dX11_likes_119 : decode cX11_likes 119 = .ok (.ixor, 1) := by decide +kernel
theorem dX11_likes_120 : decode cX11_likes 120 = .ok (.putfield 355, 3) := by decide +kernel
theorem dX11_likes_123 : decode cX11_likes 123 = .ok (.aload_n 0, 1) := by decide +kernel
theorem dX11_likes_124 : decode cX11_likes 124 = .ok (.getfield 121, 3) := by decide +kernel
theorem dX11_likes_127 : decode cX11_likes 127 = .ok (.bipush 26, 2) := by decide +kernel
theorem dX11_likes_129 : decode cX11_likes 129 = .ok (.aload_n 0, 1) := by decide +kernel
theorem dX11_likes_130 : decode cX11_likes 130 = .ok (.iload_n 1, 1) := by decide +kernel
theorem dX11_likes_131 : decode cX11_likes 131 = .ok (.aload_n 0, 1) := by decide +kernel
theorem dX11_likes_132 : decode cX11_likes 132 = .ok (.getfield 355, 3) := by decide +kernel
theorem dX11_likes_135 : decode cX11_likes 135 = .ok (.invokevirtual 370, 3) := by decide +kernel
theorem dX11_likes_138 : decode cX11_likes 138 = .ok (.imul, 1) := by decide +kernel
theorem dX11_likes_139 : decode cX11_likes 139 = .ok (.aload_n 0, 1) := by decide +kernel
theorem dX11_likes_140 : decode cX11_likes 140 = .ok (.getfield 355, 3) := by decide +kernel
theorem dX11_likes_143 : decode cX11_likes 143 = .ok (.invokestatic 169, 3) := by decide +kernel
theorem dX11_likes_146 : decode cX11_likes 146 = .ok (.iadd, 1) := by decide +kernel
theorem dX11_likes_147 : decode cX11_likes 147 = .ok (.dup2, 1) := by decide +kernel
theorem dX11_likes_148 : decode cX11_likes 148 = .ok (.iaload, 1) := by decide +kernel
theorem dX11_likes_149 : decode cX11_likes 149 = .ok (.iconst 1, 1) := by decide +kernel
theorem dX11_likes_150 : decode cX11_likes 150 = .ok (.iadd, 1) := by decide +kernel
theorem dX11_likes_151 : decode cX11_likes 151 = .ok (.iastore, 1) := by decide +kernel
theorem dX11_likes_152 : decode cX11_likes 152 = .ok (.aload_n 0, 1) := by decide +kernel
theorem dX11_likes_153 : decode cX11_likes 153 = .ok (.aload_n 0, 1) := by decide +kernel
theorem dX11_likes_154 : decode cX11_likes 154 = .ok (.getfield 355, 3) := by decide +kernel
theorem dX11_likes_157 : decode cX11_likes 157 = .ok (.invokevirtual 361, 3) := by decide +kernel
theorem dX11_likes_160 : decode cX11_likes 160 = .ok (.istore 6, 2) := by decide +kernel
theorem dX11_likes_162 : decode cX11_likes 162 = .ok (.iload 6, 2) := by decide +kernel
theorem dX11_likes_164 : decode cX11_likes 164 = .ok (.aload_n 0, 1) := by decide +kernel
theorem dX11_likes_165 : decode cX11_likes 165 = .ok (.getfield 364, 3) := by decide +kernel
theorem dX11_likes_168 : decode cX11_likes 168 = .ok (.if_icmp .gt 40, 3) := by decide +kernel
theorem dX11_likes_171 : decode cX11_likes 171 = .ok (.iload 6, 2) := by decide +kernel
theorem dX11_likes_173 : decode cX11_likes 173 = .ok (.aload_n 0, 1) := by decide +kernel
theorem dX11_likes_174 : decode cX11_likes 174 = .ok (.getfield 364, 3) := by decide +kernel
theorem dX11_likes_177 : decode cX11_likes 177 = .ok (.if_icmp .ne 17, 3) := by decide +kernel
theorem dX11_likes_180 : decode cX11_likes 180 = .ok (.aload_n 0, 1) := by decide +kernel
theorem dX11_likes_181 : decode cX11_likes 181 = .ok (.getfield 355, 3) := by decide +kernel
theorem dX11_likes_184 : decode cX11_likes 184 = .ok (.aload_n 0, 1) := by decide +kernel
theorem dX11_likes_185 : decode cX11_likes 185 = .ok (.getfield 358, 3) := by decide +kernel
theorem dX11_likes_188 : decode cX11_likes 188 = .ok (.if_icmp .le 6, 3) := by decide +kernel
theorem dX11_likes_191 : decode cX11_likes 191 = .ok (.goto 17, 3) := by decide +kernel
theorem dX11_likes_194 : decode cX11_likes 194 = .ok (.aload_n 0, 1) := by decide +kernel
theorem dX11_likes_195 : decode cX11_likes 195 = .ok (.iload 6, 2) := by decide +kernel
theorem dX11_likes_197 : decode cX11_likes 197 = .ok (.putfield 364, 3) := by decide +kernel
theorem dX11_likes_200 : decode cX11_likes 200 = .ok (.aload_n 0, 1) := by decide +kernel
theorem dX11_likes_201 : decode cX11_likes 201 = .ok (.aload_n 0, 1) := by decide +kernel
theorem dX11_likes_202 : decode cX11_likes 202 = .ok (.getfield 355, 3) := by decide +kernel
theorem dX11_likes_205 : decode cX11_likes 205 = .ok (.putfield 358, 3) := by decide +kernel
theorem dX11_likes_208 : decode cX11_likes 208 = .ok (.iinc 5 1, 3) := by decide +kernel
theorem dX11_likes_211 : decode cX11_likes 211 = .ok (.goto (-149), 3) := by decide +kernel
theorem dX11_likes_214 : decode cX11_likes 214 = .ok (.return_, 1) := by decide +kernel
theorem dX11_isLike_0 : decode cX11_isLike 0 = .ok (.iload_n 1, 1) := by decide +kernel
theorem dX11_isLike_1 : decode cX11_isLike 1 = .ok (.invokestatic 165, 3) := by decide +kernel
theorem dX11_isLike_4 : decode cX11_isLike 4 = .ok (.ifCond .eq 16, 3) := by decide +kernel
theorem dX11_isLike_7 : decode cX11_isLike 7 = .ok (.iload_n 2, 1) := by decide +kernel
theorem dX11_isLike_8 : decode cX11_isLike 8 = .ok (.iconst 0, 1) := by decide +kernel
theorem dX11_isLike_9 : decode cX11_isLike 9 = .ok (.iconst 1, 1) := by decide +kernel
theorem dX11_isLike_10 : decode cX11_isLike 10 = .ok (.invokestatic 144, 3) := by decide +kernel
theorem dX11_isLike_13 : decode cX11_isLike 13 = .ok (.ifCond .eq 7, 3) := by decide +kernel
theorem dX11_isLike_16 : decode cX11_isLike 16 = .ok (.iconst 1, 1) := by decide +kernel
theorem dX11_isLike_17 : decode cX11_isLike 17 = .ok (.goto 4, 3) := by decide +kernel
theorem dX11_isLike_20 : decode cX11_isLike 20 = .ok (.iconst 0, 1) := by decide +kernel
theorem dX11_isLike_21 : decode cX11_isLike 21 = .ok (.ireturn, 1) := by decide +kernel
theorem dX11_like_0 : decode cX11_like 0 = .ok (.aload_n 0, 1) := by decide +kernel
theorem dX11_like_1 : decode cX11_like 1 = .ok (.iconst 0, 1) := by decide +kernel
theorem dX11_like_2 : decode cX11_like 2 = .ok (.putfield 1, 3) := by decide +kernel
theorem dX11_like_5 : decode cX11_like 5 = .ok (.aload_n 0, 1) := by decide +kernel
theorem dX11_like_6 : decode cX11_like 6 = .ok (.iload_n 1, 1) := by decide +kernel
theorem dX11_like_7 : decode cX11_like 7 = .ok (.iload_n 2, 1) := by decide +kernel
theorem dX11_like_8 : decode cX11_like 8 = .ok (.invokevirtual 373, 3) := by decide +kernel
theorem dX11_like_11 : decode cX11_like 11 = .ok (.ifCond .eq 15, 3) := by decide +kernel
theorem dX11_like_14 : decode cX11_like 14 = .ok (.iload_n 3, 1) := by decide +kernel
theorem dX11_like_15 : decode cX11_like 15 = .ok (.iconst 0, 1) := by decide +kernel
theorem dX11_like_16 : decode cX11_like 16 = .ok (.aload_n 0, 1) := by decide +kernel
theorem dX11_like_17 : decode cX11_like 17 = .ok (.invokevirtual 148, 3) := by decide +kernel
theorem dX11_like_20 : decode cX11_like 20 = .ok (.invokestatic 144, 3) := by decide +kernel
theorem dX11_like_23 : decode cX11_like 23 = .ok (.ifCond .ne 5, 3) := by decide +kernel
theorem dX11_like_26 : decode cX11_like 26 = .ok (.iconst (-1), 1) := by decide +kernel
theorem dX11_like_27 : decode cX11_like 27 = .ok (.ireturn, 1) := by decide +kernel
theorem dX11_like_28 : decode cX11_like 28 = .ok (.aload_n 0, 1) := by decide +kernel
theorem dX11_like_29 : decode cX11_like 29 = .ok (.iload_n 1, 1) := by decide +kernel
theorem dX11_like_30 : decode cX11_like 30 = .ok (.aload_n 0, 1) := by decide +kernel
theorem dX11_like_31 : decode cX11_like 31 = .ok (.getfield 13, 3) := by decide +kernel
theorem dX11_like_34 : decode cX11_like 34 = .ok (.iconst 2, 1) := by decide +kernel
theorem dX11_like_35 : decode cX11_like 35 = .ok (.iload_n 1, 1) := by decide +kernel
theorem dX11_like_36 : decode cX11_like 36 = .ok (.iadd, 1) := by decide +kernel
theorem dX11_like_37 : decode cX11_like 37 = .ok (.iaload, 1) := by decide +kernel
theorem dX11_like_38 : decode cX11_like 38 = .ok (.iconst 1, 1) := by decide +kernel
theorem dX11_like_39 : decode cX11_like 39 = .ok (.invokevirtual 376, 3) := by decide +kernel
theorem dX11_like_42 : decode cX11_like 42 = .ok (.aload_n 0, 1) := by decide +kernel
theorem dX11_like_43 : decode cX11_like 43 = .ok (.getfield 121, 3) := by decide +kernel
theorem dX11_like_46 : decode cX11_like 46 = .ok (.bipush 26, 2) := by decide +kernel
theorem dX11_like_48 : decode cX11_like 48 = .ok (.iload_n 2, 1) := by decide +kernel
theorem dX11_like_49 : decode cX11_like 49 = .ok (.imul, 1) := by decide +kernel
theorem dX11_like_50 : decode cX11_like 50 = .ok (.iload_n 3, 1) := by decide +kernel
theorem dX11_like_51 : decode cX11_like 51 = .ok (.iadd, 1) := by decide +kernel
theorem dX11_like_52 : decode cX11_like 52 = .ok (.iaload, 1) := by decide +kernel
theorem dX11_like_53 : decode cX11_like 53 = .ok (.ireturn, 1) := by decide +kernel
theorem dX11_fewest_0 : decode cX11_fewest 0 = .ok (.aload_n 0, 1) := by decide +kernel
theorem dX11_fewest_1 : decode cX11_fewest 1 = .ok (.iconst 0, 1) := by decide +kernel
theorem dX11_fewest_2 : decode cX11_fewest 2 = .ok (.putfield 1, 3) := by decide +kernel
theorem dX11_fewest_5 : decode cX11_fewest 5 = .ok (.aload_n 0, 1) := by decide +kernel
theorem dX11_fewest_6 : decode cX11_fewest 6 = .ok (.iload_n 1, 1) := by decide +kernel
theorem dX11_fewest_7 : decode cX11_fewest 7 = .ok (.iload_n 2, 1) := by decide +kernel
theorem dX11_fewest_8 : decode cX11_fewest 8 = .ok (.invokevirtual 373, 3) := by decide +kernel
theorem dX11_fewest_11 : decode cX11_fewest 11 = .ok (.ifCond .ne 5, 3) := by decide +kernel
theorem dX11_fewest_14 : decode cX11_fewest 14 = .ok (.iconst (-1), 1) := by decide +kernel
theorem dX11_fewest_15 : decode cX11_fewest 15 = .ok (.ireturn, 1) := by decide +kernel
theorem dX11_fewest_16 : decode cX11_fewest 16 = .ok (.aload_n 0, 1) := by decide +kernel
theorem dX11_fewest_17 : decode cX11_fewest 17 = .ok (.iload_n 1, 1) := by decide +kernel
theorem dX11_fewest_18 : decode cX11_fewest 18 = .ok (.aload_n 0, 1) := by decide +kernel
theorem dX11_fewest_19 : decode cX11_fewest 19 = .ok (.getfield 13, 3) := by decide +kernel
theorem dX11_fewest_22 : decode cX11_fewest 22 = .ok (.iconst 2, 1) := by decide +kernel
theorem dX11_fewest_23 : decode cX11_fewest 23 = .ok (.iload_n 1, 1) := by decide +kernel
theorem dX11_fewest_24 : decode cX11_fewest 24 = .ok (.iadd, 1) := by decide +kernel
theorem dX11_fewest_25 : decode cX11_fewest 25 = .ok (.iaload, 1) := by decide +kernel
theorem dX11_fewest_26 : decode cX11_fewest 26 = .ok (.iconst 1, 1) := by decide +kernel
theorem dX11_fewest_27 : decode cX11_fewest 27 = .ok (.invokevirtual 376, 3) := by decide +kernel
theorem dX11_fewest_30 : decode cX11_fewest 30 = .ok (.iconst 0, 1) := by decide +kernel
theorem dX11_fewest_31 : decode cX11_fewest 31 = .ok (.istore_n 3, 1) := by decide +kernel
theorem dX11_fewest_32 : decode cX11_fewest 32 = .ok (.aload_n 0, 1) := by decide +kernel
theorem dX11_fewest_33 : decode cX11_fewest 33 = .ok (.getfield 121, 3) := by decide +kernel
theorem dX11_fewest_36 : decode cX11_fewest 36 = .ok (.bipush 26, 2) := by decide +kernel
theorem dX11_fewest_38 : decode cX11_fewest 38 = .ok (.iload_n 2, 1) := by decide +kernel
theorem dX11_fewest_39 : decode cX11_fewest 39 = .ok (.imul, 1) := by decide +kernel
theorem dX11_fewest_40 : decode cX11_fewest 40 = .ok (.iload_n 3, 1) := by decide +kernel
theorem dX11_fewest_41 : decode cX11_fewest 41 = .ok (.iadd, 1) := by decide +kernel
theorem dX11_fewest_42 : decode cX11_fewest 42 = .ok (.iaload, 1) := by decide +kernel
theorem dX11_fewest_43 : decode cX11_fewest 43 = .ok (.ifCond .ne 9, 3) := by decide +kernel
theorem dX11_fewest_46 : decode cX11_fewest 46 = .ok (.iinc 3 1, 3) := by decide +kernel
theorem dX11_fewest_49 : decode cX11_fewest 49 = .ok (.goto (-17), 3) := by decide +kernel
theorem dX11_fewest_52 : decode cX11_fewest 52 = .ok (.iload_n 3, 1) := by decide +kernel
theorem dX11_fewest_53 : decode cX11_fewest 53 = .ok (.ireturn, 1) := by decide +kernel
theorem dX11_distance_0 : decode cX11_distance 0 = .ok (.aload_n 0, 1) := by decide +kernel
theorem dX11_distance_1 : decode cX11_distance 1 = .ok (.iconst 0, 1) := by decide +kernel
theorem dX11_distance_2 : decode cX11_distance 2 = .ok (.putfield 1, 3) := by decide +kernel
theorem dX11_distance_5 : decode cX11_distance 5 = .ok (.iload_n 1, 1) := by decide +kernel
theorem dX11_distance_6 : decode cX11_distance 6 = .ok (.invokestatic 165, 3) := by decide +kernel
theorem dX11_distance_9 : decode cX11_distance 9 = .ok (.ifCond .ne 5, 3) := by decide +kernel
theorem dX11_distance_12 : decode cX11_distance 12 = .ok (.iconst (-1), 1) := by decide +kernel
theorem dX11_distance_13 : decode cX11_distance 13 = .ok (.ireturn, 1) := by decide +kernel
theorem dX11_distance_14 : decode cX11_distance 14 = .ok (.aload_n 0, 1) := by decide +kernel
theorem dX11_distance_15 : decode cX11_distance 15 = .ok (.iload_n 1, 1) := by decide +kernel
theorem dX11_distance_16 : decode cX11_distance 16 = .ok (.aload_n 0, 1) := by decide +kernel
theorem dX11_distance_17 : decode cX11_distance 17 = .ok (.iload_n 1, 1) := by decide +kernel
theorem dX11_distance_18 : decode cX11_distance 18 = .ok (.invokevirtual 367, 3) := by decide +kernel
theorem dX11_distance_21 : decode cX11_distance 21 = .ok (.iconst 0, 1) := by decide +kernel
theorem dX11_distance_22 : decode cX11_distance 22 = .ok (.invokevirtual 376, 3) := by decide +kernel
theorem dX11_distance_25 : decode cX11_distance 25 = .ok (.aload_n 0, 1) := by decide +kernel
theorem dX11_distance_26 : decode cX11_distance 26 = .ok (.getfield 364, 3) := by decide +kernel
theorem dX11_distance_29 : decode cX11_distance 29 = .ok (.ireturn, 1) := by decide +kernel
theorem dX11_times_0 : decode cX11_times 0 = .ok (.lload_n 0, 1) := by decide +kernel
theorem dX11_times_1 : decode cX11_times 1 = .ok (.lconst 0, 1) := by decide +kernel
theorem dX11_times_2 : decode cX11_times 2 = .ok (.lcmp, 1) := by decide +kernel
theorem dX11_times_3 : decode cX11_times 3 = .ok (.ifCond .lt 19, 3) := by decide +kernel
theorem dX11_times_6 : decode cX11_times 6 = .ok (.lload_n 2, 1) := by decide +kernel
theorem dX11_times_7 : decode cX11_times 7 = .ok (.lconst 0, 1) := by decide +kernel
theorem dX11_times_8 : decode cX11_times 8 = .ok (.lcmp, 1) := by decide +kernel
theorem dX11_times_9 : decode cX11_times 9 = .ok (.ifCond .le 19, 3) := by decide +kernel
theorem dX11_times_12 : decode cX11_times 12 = .ok (.lload_n 0, 1) := by decide +kernel
theorem dX11_times_13 : decode cX11_times 13 = .ok (.ldc2_w 380, 3) := by decide +kernel
theorem dX11_times_16 : decode cX11_times 16 = .ok (.lload_n 2, 1) := by decide +kernel
theorem dX11_times_17 : decode cX11_times 17 = .ok (.ldiv, 1) := by decide +kernel
theorem dX11_times_18 : decode cX11_times 18 = .ok (.lcmp, 1) := by decide +kernel
theorem dX11_times_19 : decode cX11_times 19 = .ok (.ifCond .le 9, 3) := by decide +kernel
theorem dX11_times_22 : decode cX11_times 22 = .ok (.ldc2_w 382, 3) := by decide +kernel
theorem dX11_times_25 : decode cX11_times 25 = .ok (.goto 6, 3) := by decide +kernel
theorem dX11_times_28 : decode cX11_times 28 = .ok (.lload_n 0, 1) := by decide +kernel
theorem dX11_times_29 : decode cX11_times 29 = .ok (.lload_n 2, 1) := by decide +kernel
theorem dX11_times_30 : decode cX11_times 30 = .ok (.lmul, 1) := by decide +kernel
theorem dX11_times_31 : decode cX11_times 31 = .ok (.lreturn, 1) := by decide +kernel
theorem dX11_odds_0 : decode cX11_odds 0 = .ok (.aload_n 0, 1) := by decide +kernel
theorem dX11_odds_1 : decode cX11_odds 1 = .ok (.iconst 0, 1) := by decide +kernel
theorem dX11_odds_2 : decode cX11_odds 2 = .ok (.putfield 1, 3) := by decide +kernel
theorem dX11_odds_5 : decode cX11_odds 5 = .ok (.aload_n 0, 1) := by decide +kernel
theorem dX11_odds_6 : decode cX11_odds 6 = .ok (.iload_n 1, 1) := by decide +kernel
theorem dX11_odds_7 : decode cX11_odds 7 = .ok (.iload_n 2, 1) := by decide +kernel
theorem dX11_odds_8 : decode cX11_odds 8 = .ok (.invokevirtual 373, 3) := by decide +kernel
theorem dX11_odds_11 : decode cX11_odds 11 = .ok (.ifCond .eq 24, 3) := by decide +kernel
theorem dX11_odds_14 : decode cX11_odds 14 = .ok (.iload_n 3, 1) := by decide +kernel
theorem dX11_odds_15 : decode cX11_odds 15 = .ok (.iconst 0, 1) := by decide +kernel
theorem dX11_odds_16 : decode cX11_odds 16 = .ok (.bipush 99, 2) := by decide +kernel
theorem dX11_odds_18 : decode cX11_odds 18 = .ok (.invokestatic 144, 3) := by decide +kernel
theorem dX11_odds_21 : decode cX11_odds 21 = .ok (.ifCond .eq 14, 3) := by decide +kernel
theorem dX11_odds_24 : decode cX11_odds 24 = .ok (.iload 4, 2) := by decide +kernel
theorem dX11_odds_26 : decode cX11_odds 26 = .ok (.iconst 0, 1) := by decide +kernel
theorem dX11_odds_27 : decode cX11_odds 27 = .ok (.bipush 99, 2) := by decide +kernel
theorem dX11_odds_29 : decode cX11_odds 29 = .ok (.invokestatic 144, 3) := by decide +kernel
theorem dX11_odds_32 : decode cX11_odds 32 = .ok (.ifCond .ne 7, 3) := by decide +kernel
theorem dX11_odds_35 : decode cX11_odds 35 = .ok (.ldc2_w 382, 3) := by decide +kernel
theorem dX11_odds_38 : decode cX11_odds 38 = .ok (.lreturn, 1) := by decide +kernel
theorem dX11_odds_39 : decode cX11_odds 39 = .ok (.aload_n 0, 1) := by decide +kernel
theorem dX11_odds_40 : decode cX11_odds 40 = .ok (.iload_n 1, 1) := by decide +kernel
theorem dX11_odds_41 : decode cX11_odds 41 = .ok (.aload_n 0, 1) := by decide +kernel
theorem dX11_odds_42 : decode cX11_odds 42 = .ok (.getfield 13, 3) := by decide +kernel
theorem dX11_odds_45 : decode cX11_odds 45 = .ok (.iconst 2, 1) := by decide +kernel
theorem dX11_odds_46 : decode cX11_odds 46 = .ok (.iload_n 1, 1) := by decide +kernel
theorem dX11_odds_47 : decode cX11_odds 47 = .ok (.iadd, 1) := by decide +kernel
theorem dX11_odds_48 : decode cX11_odds 48 = .ok (.iaload, 1) := by decide +kernel
theorem dX11_odds_49 : decode cX11_odds 49 = .ok (.iconst 1, 1) := by decide +kernel
theorem dX11_odds_50 : decode cX11_odds 50 = .ok (.invokevirtual 376, 3) := by decide +kernel
theorem dX11_odds_53 : decode cX11_odds 53 = .ok (.lconst 0, 1) := by decide +kernel
theorem dX11_odds_54 : decode cX11_odds 54 = .ok (.lstore 5, 2) := by decide +kernel
theorem dX11_odds_56 : decode cX11_odds 56 = .ok (.iconst 0, 1) := by decide +kernel
theorem dX11_odds_57 : decode cX11_odds 57 = .ok (.istore 7, 2) := by decide +kernel
theorem dX11_odds_59 : decode cX11_odds 59 = .ok (.iload 7, 2) := by decide +kernel
theorem dX11_odds_61 : decode cX11_odds 61 = .ok (.aload_n 0, 1) := by decide +kernel
theorem dX11_odds_62 : decode cX11_odds 62 = .ok (.invokevirtual 148, 3) := by decide +kernel
theorem dX11_odds_65 : decode cX11_odds 65 = .ok (.if_icmp .gt 135, 3) := by decide +kernel
theorem dX11_odds_68 : decode cX11_odds 68 = .ok (.aload_n 0, 1) := by decide +kernel
theorem dX11_odds_69 : decode cX11_odds 69 = .ok (.getfield 121, 3) := by decide +kernel
theorem dX11_odds_72 : decode cX11_odds 72 = .ok (.bipush 26, 2) := by decide +kernel
theorem dX11_odds_74 : decode cX11_odds 74 = .ok (.iload_n 2, 1) := by decide +kernel
theorem dX11_odds_75 : decode cX11_odds 75 = .ok (.imul, 1) := by decide +kernel
theorem dX11_odds_76 : decode cX11_odds 76 = .ok (.iload 7, 2) := by decide +kernel
theorem dX11_odds_78 : decode cX11_odds 78 = .ok (.iadd, 1) := by decide +kernel
theorem dX11_odds_79 : decode cX11_odds 79 = .ok (.iaload, 1) := by decide +kernel
theorem dX11_odds_80 : decode cX11_odds 80 = .ok (.ifCond .eq 114, 3) := by decide +kernel
theorem dX11_odds_83 : decode cX11_odds 83 = .ok (.iload_n 3, 1) := by decide +kernel
theorem dX11_odds_84 : decode cX11_odds 84 = .ok (.ifCond .ne 8, 3) := by decide +kernel
theorem dX11_odds_87 : decode cX11_odds 87 = .ok (.iload 7, 2) := by decide +kernel
theorem dX11_odds_89 : decode cX11_odds 89 = .ok (.ifCond .gt 105, 3) := by decide +kernel
theorem dX11_odds_92 : decode cX11_odds 92 = .ok (.iload 4, 2) := by decide +kernel
theorem dX11_odds_94 : decode cX11_odds 94 = .ok (.ifCond .ne 15, 3) := by decide +kernel
theorem dX11_odds_97 : decode cX11_odds 97 = .ok (.iload 7, 2) := by decide +kernel
theorem dX11_odds_99 : decode cX11_odds 99 = .ok (.aload_n 0, 1) := by decide +kernel
theorem dX11_odds_100 : decode cX11_odds 100 = .ok (.invokevirtual 148, 3) := by decide +kernel
theorem dX11_odds_103 : decode cX11_odds 103 = .ok (.if_icmp .ge 6, 3) := by decide +kernel
theorem dX11_odds_106 : decode cX11_odds 106 = .ok (.goto 88, 3) := by decide +kernel
theorem dX11_odds_109 : decode cX11_odds 109 = .ok (.aload_n 0, 1) := by decide +kernel
theorem dX11_odds_110 : decode cX11_odds 110 = .ok (.getfield 121, 3) := by decide +kernel
theorem dX11_odds_113 : decode cX11_odds 113 = .ok (.bipush 26, 2) := by decide +kernel
theorem dX11_odds_115 : decode cX11_odds 115 = .ok (.iload_n 2, 1) := by decide +kernel
theorem dX11_odds_116 : decode cX11_odds 116 = .ok (.imul, 1) := by decide +kernel
theorem dX11_odds_117 : decode cX11_odds 117 = .ok (.iload 7, 2) := by decide +kernel
theorem dX11_odds_119 : decode cX11_odds 119 = .ok (.iadd, 1) := by decide +kernel
theorem dX11_odds_120 : decode cX11_odds 120 = .ok (.iaload, 1) := by decide +kernel
theorem dX11_odds_121 : decode cX11_odds 121 = .ok (.i2l, 1) := by decide +kernel
theorem dX11_odds_122 : decode cX11_odds 122 = .ok (.lstore 8, 2) := by decide +kernel
theorem dX11_odds_124 : decode cX11_odds 124 = .ok (.iconst 0, 1) := by decide +kernel
theorem dX11_odds_125 : decode cX11_odds 125 = .ok (.istore 10, 2) := by decide +kernel
theorem dX11_odds_127 : decode cX11_odds 127 = .ok (.iload 10, 2) := by decide +kernel
theorem dX11_odds_129 : decode cX11_odds 129 = .ok (.aload_n 0, 1) := by decide +kernel
theorem dX11_odds_130 : decode cX11_odds 130 = .ok (.invokevirtual 148, 3) := by decide +kernel
theorem dX11_odds_133 : decode cX11_odds 133 = .ok (.if_icmp .ge 31, 3) := by decide +kernel
theorem dX11_odds_136 : decode cX11_odds 136 = .ok (.lload 8, 2) := by decide +kernel
theorem dX11_odds_138 : decode cX11_odds 138 = .ok (.iload 10, 2) := by decide +kernel
theorem dX11_odds_140 : decode cX11_odds 140 = .ok (.iload 7, 2) := by decide +kernel
theorem dX11_odds_142 : decode cX11_odds 142 = .ok (.if_icmp .ge 8, 3) := by decide +kernel
theorem dX11_odds_145 : decode cX11_odds 145 = .ok (.iload_n 3, 1) := by decide +kernel
theorem dX11_odds_146 : decode cX11_odds 146 = .ok (.i2l, 1) := by decide +kernel
theorem dX11_odds_147 : decode cX11_odds 147 = .ok (.goto 6, 3) := by decide +kernel
theorem dX11_odds_150 : decode cX11_odds 150 = .ok (.iload 4, 2) := by decide +kernel
theorem dX11_odds_152 : decode cX11_odds 152 = .ok (.i2l, 1) := by decide +kernel
theorem dX11_odds_153 : decode cX11_odds 153 = .ok (.invokestatic 384, 3) := by decide +kernel
theorem dX11_odds_156 : decode cX11_odds 156 = .ok (.lstore 8, 2) := by decide +kernel
theorem dX11_odds_158 : decode cX11_odds 158 = .ok (.iinc 10 1, 3) := by decide +kernel
theorem dX11_odds_161 : decode cX11_odds 161 = .ok (.goto (-34), 3) := by decide +kernel
theorem dX11_odds_164 : decode cX11_odds 164 = .ok (.lload 8, 2) := by decide +kernel
theorem dX11_odds_166 : decode cX11_odds 166 = .ok (.lconst 0, 1) := by decide +kernel
theorem dX11_odds_167 : decode cX11_odds 167 = .ok (.lcmp, 1) := by decide +kernel
theorem dX11_odds_168 : decode cX11_odds 168 = .ok (.ifCond .lt 15, 3) := by decide +kernel
theorem dX11_odds_171 : decode cX11_odds 171 = .ok (.lload 5, 2) := by decide +kernel
theorem dX11_odds_173 : decode cX11_odds 173 = .ok (.ldc2_w 380, 3) := by decide +kernel
theorem dX11_odds_176 : decode cX11_odds 176 = .ok (.lload 8, 2) := by decide +kernel
theorem dX11_odds_178 : decode cX11_odds 178 = .ok (.lsub, 1) := by decide +kernel
theorem dX11_odds_179 : decode cX11_odds 179 = .ok (.lcmp, 1) := by decide +kernel
theorem dX11_odds_180 : decode cX11_odds 180 = .ok (.ifCond .le 7, 3) := by decide +kernel
theorem dX11_odds_183 : decode cX11_odds 183 = .ok (.ldc2_w 382, 3) := by decide +kernel
theorem dX11_odds_186 : decode cX11_odds 186 = .ok (.lreturn, 1) := by decide +kernel
theorem dX11_odds_187 : decode cX11_odds 187 = .ok (.lload 5, 2) := by decide +kernel
theorem dX11_odds_189 : decode cX11_odds 189 = .ok (.lload 8, 2) := by decide +kernel
theorem dX11_odds_191 : decode cX11_odds 191 = .ok (.ladd, 1) := by decide +kernel
theorem dX11_odds_192 : decode cX11_odds 192 = .ok (.lstore 5, 2) := by decide +kernel
theorem dX11_odds_194 : decode cX11_odds 194 = .ok (.iinc 7 1, 3) := by decide +kernel
theorem dX11_odds_197 : decode cX11_odds 197 = .ok (.goto (-138), 3) := by decide +kernel
theorem dX11_odds_200 : decode cX11_odds 200 = .ok (.lload 5, 2) := by decide +kernel
theorem dX11_odds_202 : decode cX11_odds 202 = .ok (.lreturn, 1) := by decide +kernel
theorem dX11_corrects_0 : decode cX11_corrects 0 = .ok (.iload_n 1, 1) := by decide +kernel
theorem dX11_corrects_1 : decode cX11_corrects 1 = .ok (.invokestatic 165, 3) := by decide +kernel
theorem dX11_corrects_4 : decode cX11_corrects 4 = .ok (.ifCond .eq 12, 3) := by decide +kernel
theorem dX11_corrects_7 : decode cX11_corrects 7 = .ok (.iload_n 2, 1) := by decide +kernel
theorem dX11_corrects_8 : decode cX11_corrects 8 = .ok (.iconst 0, 1) := by decide +kernel
theorem dX11_corrects_9 : decode cX11_corrects 9 = .ok (.iconst 2, 1) := by decide +kernel
theorem dX11_corrects_10 : decode cX11_corrects 10 = .ok (.invokestatic 144, 3) := by decide +kernel
theorem dX11_corrects_13 : decode cX11_corrects 13 = .ok (.ifCond .ne 5, 3) := by decide +kernel
theorem dX11_corrects_16 : decode cX11_corrects 16 = .ok (.iconst 0, 1) := by decide +kernel
theorem dX11_corrects_17 : decode cX11_corrects 17 = .ok (.ireturn, 1) := by decide +kernel
theorem dX11_corrects_18 : decode cX11_corrects 18 = .ok (.iload_n 2, 1) := by decide +kernel
theorem dX11_corrects_19 : decode cX11_corrects 19 = .ok (.iconst 2, 1) := by decide +kernel
theorem dX11_corrects_20 : decode cX11_corrects 20 = .ok (.if_icmp .ne 27, 3) := by decide +kernel
theorem dX11_corrects_23 : decode cX11_corrects 23 = .ok (.aload_n 0, 1) := by decide +kernel
theorem dX11_corrects_24 : decode cX11_corrects 24 = .ok (.iload_n 1, 1) := by decide +kernel
theorem dX11_corrects_25 : decode cX11_corrects 25 = .ok (.aload_n 0, 1) := by decide +kernel
theorem dX11_corrects_26 : decode cX11_corrects 26 = .ok (.getfield 13, 3) := by decide +kernel
theorem dX11_corrects_29 : decode cX11_corrects 29 = .ok (.iconst 2, 1) := by decide +kernel
theorem dX11_corrects_30 : decode cX11_corrects 30 = .ok (.iload_n 1, 1) := by decide +kernel
theorem dX11_corrects_31 : decode cX11_corrects 31 = .ok (.iadd, 1) := by decide +kernel
theorem dX11_corrects_32 : decode cX11_corrects 32 = .ok (.iaload, 1) := by decide +kernel
theorem dX11_corrects_33 : decode cX11_corrects 33 = .ok (.iconst 1, 1) := by decide +kernel
theorem dX11_corrects_34 : decode cX11_corrects 34 = .ok (.invokevirtual 376, 3) := by decide +kernel
theorem dX11_corrects_37 : decode cX11_corrects 37 = .ok (.aload_n 0, 1) := by decide +kernel
theorem dX11_corrects_38 : decode cX11_corrects 38 = .ok (.aload_n 0, 1) := by decide +kernel
theorem dX11_corrects_39 : decode cX11_corrects 39 = .ok (.getfield 358, 3) := by decide +kernel
theorem dX11_corrects_42 : decode cX11_corrects 42 = .ok (.putfield 388, 3) := by decide +kernel
theorem dX11_corrects_45 : decode cX11_corrects 45 = .ok (.iconst 1, 1) := by decide +kernel
theorem dX11_corrects_46 : decode cX11_corrects 46 = .ok (.ireturn, 1) := by decide +kernel
theorem dX11_corrects_47 : decode cX11_corrects 47 = .ok (.aload_n 0, 1) := by decide +kernel
theorem dX11_corrects_48 : decode cX11_corrects 48 = .ok (.iload_n 1, 1) := by decide +kernel
theorem dX11_corrects_49 : decode cX11_corrects 49 = .ok (.iload_n 2, 1) := by decide +kernel
theorem dX11_corrects_50 : decode cX11_corrects 50 = .ok (.invokevirtual 349, 3) := by decide +kernel
theorem dX11_corrects_53 : decode cX11_corrects 53 = .ok (.ifCond .ne 5, 3) := by decide +kernel
theorem dX11_corrects_56 : decode cX11_corrects 56 = .ok (.iconst 0, 1) := by decide +kernel
theorem dX11_corrects_57 : decode cX11_corrects 57 = .ok (.ireturn, 1) := by decide +kernel
theorem dX11_corrects_58 : decode cX11_corrects 58 = .ok (.aload_n 0, 1) := by decide +kernel
theorem dX11_corrects_59 : decode cX11_corrects 59 = .ok (.aload_n 0, 1) := by decide +kernel
theorem dX11_corrects_60 : decode cX11_corrects 60 = .ok (.iconst 1, 1) := by decide +kernel
theorem dX11_corrects_61 : decode cX11_corrects 61 = .ok (.iconst 0, 1) := by decide +kernel
theorem dX11_corrects_62 : decode cX11_corrects 62 = .ok (.invokevirtual 351, 3) := by decide +kernel
theorem dX11_corrects_65 : decode cX11_corrects 65 = .ok (.putfield 388, 3) := by decide +kernel
theorem dX11_corrects_68 : decode cX11_corrects 68 = .ok (.iconst 1, 1) := by decide +kernel
theorem dX11_corrects_69 : decode cX11_corrects 69 = .ok (.ireturn, 1) := by decide +kernel
theorem dX11_correction_0 : decode cX11_correction 0 = .ok (.aload_n 0, 1) := by decide +kernel
theorem dX11_correction_1 : decode cX11_correction 1 = .ok (.iconst 0, 1) := by decide +kernel
theorem dX11_correction_2 : decode cX11_correction 2 = .ok (.putfield 1, 3) := by decide +kernel
theorem dX11_correction_5 : decode cX11_correction 5 = .ok (.aload_n 0, 1) := by decide +kernel
theorem dX11_correction_6 : decode cX11_correction 6 = .ok (.iload_n 1, 1) := by decide +kernel
theorem dX11_correction_7 : decode cX11_correction 7 = .ok (.iload_n 2, 1) := by decide +kernel
theorem dX11_correction_8 : decode cX11_correction 8 = .ok (.invokevirtual 391, 3) := by decide +kernel
theorem dX11_correction_11 : decode cX11_correction 11 = .ok (.ifCond .eq 10, 3) := by decide +kernel
theorem dX11_correction_14 : decode cX11_correction 14 = .ok (.aload_n 0, 1) := by decide +kernel
theorem dX11_correction_15 : decode cX11_correction 15 = .ok (.getfield 388, 3) := by decide +kernel
theorem dX11_correction_18 : decode cX11_correction 18 = .ok (.goto 4, 3) := by decide +kernel
theorem dX11_correction_21 : decode cX11_correction 21 = .ok (.iconst (-1), 1) := by decide +kernel
theorem dX11_correction_22 : decode cX11_correction 22 = .ok (.ireturn, 1) := by decide +kernel
theorem dX11_result_0 : decode cX11_result 0 = .ok (.aload_n 0, 1) := by decide +kernel
theorem dX11_result_1 : decode cX11_result 1 = .ok (.iconst 0, 1) := by decide +kernel
theorem dX11_result_2 : decode cX11_result 2 = .ok (.putfield 1, 3) := by decide +kernel
theorem dX11_result_5 : decode cX11_result 5 = .ok (.aload_n 0, 1) := by decide +kernel
theorem dX11_result_6 : decode cX11_result 6 = .ok (.iload_n 1, 1) := by decide +kernel
theorem dX11_result_7 : decode cX11_result 7 = .ok (.iload_n 2, 1) := by decide +kernel
theorem dX11_result_8 : decode cX11_result 8 = .ok (.invokevirtual 391, 3) := by decide +kernel
theorem dX11_result_11 : decode cX11_result 11 = .ok (.ifCond .eq 24, 3) := by decide +kernel
theorem dX11_result_14 : decode cX11_result 14 = .ok (.aload_n 0, 1) := by decide +kernel
theorem dX11_result_15 : decode cX11_result 15 = .ok (.iload_n 1, 1) := by decide +kernel
theorem dX11_result_16 : decode cX11_result 16 = .ok (.aload_n 0, 1) := by decide +kernel
theorem dX11_result_17 : decode cX11_result 17 = .ok (.getfield 13, 3) := by decide +kernel
theorem dX11_result_20 : decode cX11_result 20 = .ok (.iconst 2, 1) := by decide +kernel
theorem dX11_result_21 : decode cX11_result 21 = .ok (.iload_n 1, 1) := by decide +kernel
theorem dX11_result_22 : decode cX11_result 22 = .ok (.iadd, 1) := by decide +kernel
theorem dX11_result_23 : decode cX11_result 23 = .ok (.iaload, 1) := by decide +kernel
theorem dX11_result_24 : decode cX11_result 24 = .ok (.aload_n 0, 1) := by decide +kernel
theorem dX11_result_25 : decode cX11_result 25 = .ok (.getfield 388, 3) := by decide +kernel
theorem dX11_result_28 : decode cX11_result 28 = .ok (.ixor, 1) := by decide +kernel
theorem dX11_result_29 : decode cX11_result 29 = .ok (.invokevirtual 370, 3) := by decide +kernel
theorem dX11_result_32 : decode cX11_result 32 = .ok (.goto 4, 3) := by decide +kernel
theorem dX11_result_35 : decode cX11_result 35 = .ok (.iconst (-1), 1) := by decide +kernel
theorem dX11_result_36 : decode cX11_result 36 = .ok (.ireturn, 1) := by decide +kernel
theorem dX11_correct_0 : decode cX11_correct 0 = .ok (.aload_n 0, 1) := by decide +kernel
theorem dX11_correct_1 : decode cX11_correct 1 = .ok (.iconst 0, 1) := by decide +kernel
theorem dX11_correct_2 : decode cX11_correct 2 = .ok (.putfield 1, 3) := by decide +kernel
theorem dX11_correct_5 : decode cX11_correct 5 = .ok (.aload_n 0, 1) := by decide +kernel
theorem dX11_correct_6 : decode cX11_correct 6 = .ok (.iload_n 1, 1) := by decide +kernel
theorem dX11_correct_7 : decode cX11_correct 7 = .ok (.iload_n 2, 1) := by decide +kernel
theorem dX11_correct_8 : decode cX11_correct 8 = .ok (.invokevirtual 391, 3) := by decide +kernel
theorem dX11_correct_11 : decode cX11_correct 11 = .ok (.ifCond .ne 5, 3) := by decide +kernel
theorem dX11_correct_14 : decode cX11_correct 14 = .ok (.iconst (-1), 1) := by decide +kernel
theorem dX11_correct_15 : decode cX11_correct 15 = .ok (.ireturn, 1) := by decide +kernel
theorem dX11_correct_16 : decode cX11_correct 16 = .ok (.aload_n 0, 1) := by decide +kernel
theorem dX11_correct_17 : decode cX11_correct 17 = .ok (.invokevirtual 242, 3) := by decide +kernel
theorem dX11_correct_20 : decode cX11_correct 20 = .ok (.aload_n 0, 1) := by decide +kernel
theorem dX11_correct_21 : decode cX11_correct 21 = .ok (.getfield 13, 3) := by decide +kernel
theorem dX11_correct_24 : decode cX11_correct 24 = .ok (.iconst 2, 1) := by decide +kernel
theorem dX11_correct_25 : decode cX11_correct 25 = .ok (.iload_n 1, 1) := by decide +kernel
theorem dX11_correct_26 : decode cX11_correct 26 = .ok (.iadd, 1) := by decide +kernel
theorem dX11_correct_27 : decode cX11_correct 27 = .ok (.dup2, 1) := by decide +kernel
theorem dX11_correct_28 : decode cX11_correct 28 = .ok (.iaload, 1) := by decide +kernel
theorem dX11_correct_29 : decode cX11_correct 29 = .ok (.aload_n 0, 1) := by decide +kernel
theorem dX11_correct_30 : decode cX11_correct 30 = .ok (.getfield 388, 3) := by decide +kernel
theorem dX11_correct_33 : decode cX11_correct 33 = .ok (.ixor, 1) := by decide +kernel
theorem dX11_correct_34 : decode cX11_correct 34 = .ok (.iastore, 1) := by decide +kernel
theorem dX11_correct_35 : decode cX11_correct 35 = .ok (.aload_n 0, 1) := by decide +kernel
theorem dX11_correct_36 : decode cX11_correct 36 = .ok (.getfield 388, 3) := by decide +kernel
theorem dX11_correct_39 : decode cX11_correct 39 = .ok (.invokestatic 169, 3) := by decide +kernel
theorem dX11_correct_42 : decode cX11_correct 42 = .ok (.ireturn, 1) := by decide +kernel
theorem dX11_press_0 : decode cX11_press 0 = .ok (.aload_n 0, 1) := by decide +kernel
theorem dX11_press_1 : decode cX11_press 1 = .ok (.iconst 0, 1) := by decide +kernel
theorem dX11_press_2 : decode cX11_press 2 = .ok (.putfield 1, 3) := by decide +kernel
theorem dX11_press_5 : decode cX11_press 5 = .ok (.aload_n 0, 1) := by decide +kernel
theorem dX11_press_6 : decode cX11_press 6 = .ok (.iload_n 1, 1) := by decide +kernel
theorem dX11_press_7 : decode cX11_press 7 = .ok (.iload_n 2, 1) := by decide +kernel
theorem dX11_press_8 : decode cX11_press 8 = .ok (.invokevirtual 394, 3) := by decide +kernel
theorem dX11_press_11 : decode cX11_press 11 = .ok (.ifCond .ne 5, 3) := by decide +kernel
theorem dX11_press_14 : decode cX11_press 14 = .ok (.iconst (-1), 1) := by decide +kernel
theorem dX11_press_15 : decode cX11_press 15 = .ok (.ireturn, 1) := by decide +kernel
theorem dX11_press_16 : decode cX11_press 16 = .ok (.aload_n 0, 1) := by decide +kernel
theorem dX11_press_17 : decode cX11_press 17 = .ok (.invokevirtual 242, 3) := by decide +kernel
theorem dX11_press_20 : decode cX11_press 20 = .ok (.aload_n 0, 1) := by decide +kernel
theorem dX11_press_21 : decode cX11_press 21 = .ok (.getfield 13, 3) := by decide +kernel
theorem dX11_press_24 : decode cX11_press 24 = .ok (.iconst 3, 1) := by decide +kernel
