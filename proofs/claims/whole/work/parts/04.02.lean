theorem dX12_go_110 : decode cX12_go 110 = .ok (.aload_n 0, 1) := by decide +kernel
theorem dX12_go_111 : decode cX12_go 111 = .ok (.getfield 7, 3) := by decide +kernel
theorem dX12_go_114 : decode cX12_go 114 = .ok (.aload_n 0, 1) := by decide +kernel
theorem dX12_go_115 : decode cX12_go 115 = .ok (.getfield 110, 3) := by decide +kernel
theorem dX12_go_118 : decode cX12_go 118 = .ok (.iaload, 1) := by decide +kernel
theorem dX12_go_119 : decode cX12_go 119 = .ok (.istore_n 1, 1) := by decide +kernel
theorem dX12_go_120 : decode cX12_go 120 = .ok (.iload_n 1, 1) := by decide +kernel
theorem dX12_go_121 : decode cX12_go 121 = .ok (.invokestatic 119, 3) := by decide +kernel
theorem dX12_go_124 : decode cX12_go 124 = .ok (.ifCond .ne 36, 3) := by decide +kernel
theorem dX12_go_127 : decode cX12_go 127 = .ok (.iload_n 1, 1) := by decide +kernel
theorem dX12_go_128 : decode cX12_go 128 = .ok (.invokestatic 123, 3) := by decide +kernel
theorem dX12_go_131 : decode cX12_go 131 = .ok (.ifCond .ne 29, 3) := by decide +kernel
theorem dX12_go_134 : decode cX12_go 134 = .ok (.aload_n 0, 1) := by decide +kernel
theorem dX12_go_135 : decode cX12_go 135 = .ok (.iload_n 1, 1) := by decide +kernel
theorem dX12_go_136 : decode cX12_go 136 = .ok (.bipush 59, 2) := by decide +kernel
theorem dX12_go_138 : decode cX12_go 138 = .ok (.if_icmp .ne 7, 3) := by decide +kernel
theorem dX12_go_141 : decode cX12_go 141 = .ok (.iconst 4, 1) := by decide +kernel
theorem dX12_go_142 : decode cX12_go 142 = .ok (.goto 4, 3) := by decide +kernel
theorem dX12_go_145 : decode cX12_go 145 = .ok (.iconst 1, 1) := by decide +kernel
theorem dX12_go_146 : decode cX12_go 146 = .ok (.putfield 116, 3) := by decide +kernel
theorem dX12_go_149 : decode cX12_go 149 = .ok (.aload_n 0, 1) := by decide +kernel
theorem dX12_go_150 : decode cX12_go 150 = .ok (.dup, 1) := by decide +kernel
theorem dX12_go_151 : decode cX12_go 151 = .ok (.getfield 110, 3) := by decide +kernel
theorem dX12_go_154 : decode cX12_go 154 = .ok (.iconst 1, 1) := by decide +kernel
theorem dX12_go_155 : decode cX12_go 155 = .ok (.iadd, 1) := by decide +kernel
theorem dX12_go_156 : decode cX12_go 156 = .ok (.putfield 110, 3) := by decide +kernel
theorem dX12_go_159 : decode cX12_go 159 = .ok (.return_, 1) := by decide +kernel
theorem dX12_go_160 : decode cX12_go 160 = .ok (.iload_n 1, 1) := by decide +kernel
theorem dX12_go_161 : decode cX12_go 161 = .ok (.invokestatic 119, 3) := by decide +kernel
theorem dX12_go_164 : decode cX12_go 164 = .ok (.istore_n 2, 1) := by decide +kernel
theorem dX12_go_165 : decode cX12_go 165 = .ok (.iconst 1, 1) := by decide +kernel
theorem dX12_go_166 : decode cX12_go 166 = .ok (.istore_n 3, 1) := by decide +kernel
theorem dX12_go_167 : decode cX12_go 167 = .ok (.aload_n 0, 1) := by decide +kernel
theorem dX12_go_168 : decode cX12_go 168 = .ok (.lconst 0, 1) := by decide +kernel
theorem dX12_go_169 : decode cX12_go 169 = .ok (.putfield 126, 3) := by decide +kernel
theorem dX12_go_172 : decode cX12_go 172 = .ok (.aload_n 0, 1) := by decide +kernel
theorem dX12_go_173 : decode cX12_go 173 = .ok (.iconst 0, 1) := by decide +kernel
theorem dX12_go_174 : decode cX12_go 174 = .ok (.putfield 130, 3) := by decide +kernel
theorem dX12_go_177 : decode cX12_go 177 = .ok (.aload_n 0, 1) := by decide +kernel
theorem dX12_go_178 : decode cX12_go 178 = .ok (.aload_n 0, 1) := by decide +kernel
theorem dX12_go_179 : decode cX12_go 179 = .ok (.getfield 110, 3) := by decide +kernel
theorem dX12_go_182 : decode cX12_go 182 = .ok (.invokevirtual 133, 3) := by decide +kernel
theorem dX12_go_185 : decode cX12_go 185 = .ok (.invokestatic 119, 3) := by decide +kernel
theorem dX12_go_188 : decode cX12_go 188 = .ok (.ifCond .ne 17, 3) := by decide +kernel
theorem dX12_go_191 : decode cX12_go 191 = .ok (.aload_n 0, 1) := by decide +kernel
theorem dX12_go_192 : decode cX12_go 192 = .ok (.aload_n 0, 1) := by decide +kernel
theorem dX12_go_193 : decode cX12_go 193 = .ok (.getfield 110, 3) := by decide +kernel
theorem dX12_go_196 : decode cX12_go 196 = .ok (.invokevirtual 133, 3) := by decide +kernel
theorem dX12_go_199 : decode cX12_go 199 = .ok (.invokestatic 123, 3) := by decide +kernel
theorem dX12_go_202 : decode cX12_go 202 = .ok (.ifCond .eq 110, 3) := by decide +kernel
theorem dX12_go_205 : decode cX12_go 205 = .ok (.aload_n 0, 1) := by decide +kernel
theorem dX12_go_206 : decode cX12_go 206 = .ok (.getfield 7, 3) := by decide +kernel
theorem dX12_go_209 : decode cX12_go 209 = .ok (.aload_n 0, 1) := by decide +kernel
theorem dX12_go_210 : decode cX12_go 210 = .ok (.getfield 110, 3) := by decide +kernel
theorem dX12_go_213 : decode cX12_go 213 = .ok (.iaload, 1) := by decide +kernel
theorem dX12_go_214 : decode cX12_go 214 = .ok (.istore 4, 2) := by decide +kernel
theorem dX12_go_216 : decode cX12_go 216 = .ok (.iload_n 3, 1) := by decide +kernel
theorem dX12_go_217 : decode cX12_go 217 = .ok (.ifCond .eq 16, 3) := by decide +kernel
theorem dX12_go_220 : decode cX12_go 220 = .ok (.iload 4, 2) := by decide +kernel
theorem dX12_go_222 : decode cX12_go 222 = .ok (.invokestatic 119, 3) := by decide +kernel
theorem dX12_go_225 : decode cX12_go 225 = .ok (.iload_n 2, 1) := by decide +kernel
theorem dX12_go_226 : decode cX12_go 226 = .ok (.if_icmp .ne 7, 3) := by decide +kernel
theorem dX12_go_229 : decode cX12_go 229 = .ok (.iconst 1, 1) := by decide +kernel
theorem dX12_go_230 : decode cX12_go 230 = .ok (.goto 4, 3) := by decide +kernel
theorem dX12_go_233 : decode cX12_go 233 = .ok (.iconst 0, 1) := by decide +kernel
theorem dX12_go_234 : decode cX12_go 234 = .ok (.istore_n 3, 1) := by decide +kernel
theorem dX12_go_235 : decode cX12_go 235 = .ok (.aload_n 0, 1) := by decide +kernel
theorem dX12_go_236 : decode cX12_go 236 = .ok (.getfield 110, 3) := by decide +kernel
theorem dX12_go_239 : decode cX12_go 239 = .ok (.aload_n 0, 1) := by decide +kernel
theorem dX12_go_240 : decode cX12_go 240 = .ok (.getfield 113, 3) := by decide +kernel
theorem dX12_go_243 : decode cX12_go 243 = .ok (.isub, 1) := by decide +kernel
theorem dX12_go_244 : decode cX12_go 244 = .ok (.bipush 6, 2) := by decide +kernel
theorem dX12_go_246 : decode cX12_go 246 = .ok (.if_icmp .ge 23, 3) := by decide +kernel
theorem dX12_go_249 : decode cX12_go 249 = .ok (.aload_n 0, 1) := by decide +kernel
theorem dX12_go_250 : decode cX12_go 250 = .ok (.ldc2_w 137, 3) := by decide +kernel
theorem dX12_go_253 : decode cX12_go 253 = .ok (.aload_n 0, 1) := by decide +kernel
theorem dX12_go_254 : decode cX12_go 254 = .ok (.getfield 126, 3) := by decide +kernel
theorem dX12_go_257 : decode cX12_go 257 = .ok (.lmul, 1) := by decide +kernel
theorem dX12_go_258 : decode cX12_go 258 = .ok (.iload 4, 2) := by decide +kernel
theorem dX12_go_260 : decode cX12_go 260 = .ok (.i2l, 1) := by decide +kernel
theorem dX12_go_261 : decode cX12_go 261 = .ok (.ladd, 1) := by decide +kernel
theorem dX12_go_262 : decode cX12_go 262 = .ok (.ldc2_w 139, 3) := by decide +kernel
theorem dX12_go_265 : decode cX12_go 265 = .ok (.lsub, 1) := by decide +kernel
theorem dX12_go_266 : decode cX12_go 266 = .ok (.putfield 126, 3) := by decide +kernel
theorem dX12_go_269 : decode cX12_go 269 = .ok (.aload_n 0, 1) := by decide +kernel
theorem dX12_go_270 : decode cX12_go 270 = .ok (.getfield 110, 3) := by decide +kernel
theorem dX12_go_273 : decode cX12_go 273 = .ok (.aload_n 0, 1) := by decide +kernel
theorem dX12_go_274 : decode cX12_go 274 = .ok (.getfield 113, 3) := by decide +kernel
theorem dX12_go_277 : decode cX12_go 277 = .ok (.isub, 1) := by decide +kernel
theorem dX12_go_278 : decode cX12_go 278 = .ok (.iconst 4, 1) := by decide +kernel
theorem dX12_go_279 : decode cX12_go 279 = .ok (.if_icmp .ge 20, 3) := by decide +kernel
theorem dX12_go_282 : decode cX12_go 282 = .ok (.aload_n 0, 1) := by decide +kernel
theorem dX12_go_283 : decode cX12_go 283 = .ok (.bipush 10, 2) := by decide +kernel
theorem dX12_go_285 : decode cX12_go 285 = .ok (.aload_n 0, 1) := by decide +kernel
theorem dX12_go_286 : decode cX12_go 286 = .ok (.getfield 130, 3) := by decide +kernel
theorem dX12_go_289 : decode cX12_go 289 = .ok (.imul, 1) := by decide +kernel
theorem dX12_go_290 : decode cX12_go 290 = .ok (.iload 4, 2) := by decide +kernel
theorem dX12_go_292 : decode cX12_go 292 = .ok (.iadd, 1) := by decide +kernel
theorem dX12_go_293 : decode cX12_go 293 = .ok (.bipush 48, 2) := by decide +kernel
theorem dX12_go_295 : decode cX12_go 295 = .ok (.isub, 1) := by decide +kernel
theorem dX12_go_296 : decode cX12_go 296 = .ok (.putfield 130, 3) := by decide +kernel
theorem dX12_go_299 : decode cX12_go 299 = .ok (.aload_n 0, 1) := by decide +kernel
theorem dX12_go_300 : decode cX12_go 300 = .ok (.dup, 1) := by decide +kernel
theorem dX12_go_301 : decode cX12_go 301 = .ok (.getfield 110, 3) := by decide +kernel
theorem dX12_go_304 : decode cX12_go 304 = .ok (.iconst 1, 1) := by decide +kernel
theorem dX12_go_305 : decode cX12_go 305 = .ok (.iadd, 1) := by decide +kernel
theorem dX12_go_306 : decode cX12_go 306 = .ok (.putfield 110, 3) := by decide +kernel
theorem dX12_go_309 : decode cX12_go 309 = .ok (.goto (-132), 3) := by decide +kernel
theorem dX12_go_312 : decode cX12_go 312 = .ok (.aload_n 0, 1) := by decide +kernel
theorem dX12_go_313 : decode cX12_go 313 = .ok (.iload_n 3, 1) := by decide +kernel
theorem dX12_go_314 : decode cX12_go 314 = .ok (.ifCond .eq 25, 3) := by decide +kernel
theorem dX12_go_317 : decode cX12_go 317 = .ok (.aload_n 0, 1) := by decide +kernel
theorem dX12_go_318 : decode cX12_go 318 = .ok (.getfield 110, 3) := by decide +kernel
theorem dX12_go_321 : decode cX12_go 321 = .ok (.aload_n 0, 1) := by decide +kernel
theorem dX12_go_322 : decode cX12_go 322 = .ok (.getfield 113, 3) := by decide +kernel
theorem dX12_go_325 : decode cX12_go 325 = .ok (.isub, 1) := by decide +kernel
theorem dX12_go_326 : decode cX12_go 326 = .ok (.iload_n 2, 1) := by decide +kernel
theorem dX12_go_327 : decode cX12_go 327 = .ok (.ifCond .eq 8, 3) := by decide +kernel
theorem dX12_go_330 : decode cX12_go 330 = .ok (.bipush 6, 2) := by decide +kernel
theorem dX12_go_332 : decode cX12_go 332 = .ok (.goto 4, 3) := by decide +kernel
theorem dX12_go_335 : decode cX12_go 335 = .ok (.iconst 4, 1) := by decide +kernel
theorem dX12_go_336 : decode cX12_go 336 = .ok (.if_icmp .le 7, 3) := by decide +kernel
theorem dX12_go_339 : decode cX12_go 339 = .ok (.iconst 1, 1) := by decide +kernel
theorem dX12_go_340 : decode cX12_go 340 = .ok (.goto 12, 3) := by decide +kernel
theorem dX12_go_343 : decode cX12_go 343 = .ok (.iload_n 2, 1) := by decide +kernel
theorem dX12_go_344 : decode cX12_go 344 = .ok (.ifCond .eq 7, 3) := by decide +kernel
theorem dX12_go_347 : decode cX12_go 347 = .ok (.iconst 2, 1) := by decide +kernel
theorem dX12_go_348 : decode cX12_go 348 = .ok (.goto 4, 3) := by decide +kernel
theorem dX12_go_351 : decode cX12_go 351 = .ok (.iconst 3, 1) := by decide +kernel
theorem dX12_go_352 : decode cX12_go 352 = .ok (.putfield 116, 3) := by decide +kernel
theorem dX12_go_355 : decode cX12_go 355 = .ok (.return_, 1) := by decide +kernel
theorem dX12_spelt_0 : decode cX12_spelt 0 = .ok (.ldc2_w 137, 3) := by decide +kernel
theorem dX12_spelt_3 : decode cX12_spelt 3 = .ok (.ldc2_w 137, 3) := by decide +kernel
theorem dX12_spelt_6 : decode cX12_spelt 6 = .ok (.ldc2_w 137, 3) := by decide +kernel
theorem dX12_spelt_9 : decode cX12_spelt 9 = .ok (.iload_n 0, 1) := by decide +kernel
theorem dX12_spelt_10 : decode cX12_spelt 10 = .ok (.i2l, 1) := by decide +kernel
theorem dX12_spelt_11 : decode cX12_spelt 11 = .ok (.ldc2_w 139, 3) := by decide +kernel
theorem dX12_spelt_14 : decode cX12_spelt 14 = .ok (.lsub, 1) := by decide +kernel
theorem dX12_spelt_15 : decode cX12_spelt 15 = .ok (.lmul, 1) := by decide +kernel
theorem dX12_spelt_16 : decode cX12_spelt 16 = .ok (.iload_n 1, 1) := by decide +kernel
theorem dX12_spelt_17 : decode cX12_spelt 17 = .ok (.i2l, 1) := by decide +kernel
theorem dX12_spelt_18 : decode cX12_spelt 18 = .ok (.ladd, 1) := by decide +kernel
theorem dX12_spelt_19 : decode cX12_spelt 19 = .ok (.ldc2_w 139, 3) := by decide +kernel
theorem dX12_spelt_22 : decode cX12_spelt 22 = .ok (.lsub, 1) := by decide +kernel
theorem dX12_spelt_23 : decode cX12_spelt 23 = .ok (.lmul, 1) := by decide +kernel
theorem dX12_spelt_24 : decode cX12_spelt 24 = .ok (.iload_n 2, 1) := by decide +kernel
theorem dX12_spelt_25 : decode cX12_spelt 25 = .ok (.i2l, 1) := by decide +kernel
theorem dX12_spelt_26 : decode cX12_spelt 26 = .ok (.ladd, 1) := by decide +kernel
theorem dX12_spelt_27 : decode cX12_spelt 27 = .ok (.ldc2_w 139, 3) := by decide +kernel
theorem dX12_spelt_30 : decode cX12_spelt 30 = .ok (.lsub, 1) := by decide +kernel
theorem dX12_spelt_31 : decode cX12_spelt 31 = .ok (.lmul, 1) := by decide +kernel
theorem dX12_spelt_32 : decode cX12_spelt 32 = .ok (.iload_n 3, 1) := by decide +kernel
theorem dX12_spelt_33 : decode cX12_spelt 33 = .ok (.i2l, 1) := by decide +kernel
theorem dX12_spelt_34 : decode cX12_spelt 34 = .ok (.ladd, 1) := by decide +kernel
theorem dX12_spelt_35 : decode cX12_spelt 35 = .ok (.ldc2_w 139, 3) := by decide +kernel
theorem dX12_spelt_38 : decode cX12_spelt 38 = .ok (.lsub, 1) := by decide +kernel
theorem dX12_spelt_39 : decode cX12_spelt 39 = .ok (.lreturn, 1) := by decide +kernel
theorem dX12_on_0 : decode cX12_on 0 = .ok (.ldc2_w 137, 3) := by decide +kernel
theorem dX12_on_3 : decode cX12_on 3 = .ok (.lload_n 0, 1) := by decide +kernel
theorem dX12_on_4 : decode cX12_on 4 = .ok (.lmul, 1) := by decide +kernel
theorem dX12_on_5 : decode cX12_on 5 = .ok (.iload_n 2, 1) := by decide +kernel
theorem dX12_on_6 : decode cX12_on 6 = .ok (.i2l, 1) := by decide +kernel
theorem dX12_on_7 : decode cX12_on 7 = .ok (.ladd, 1) := by decide +kernel
theorem dX12_on_8 : decode cX12_on 8 = .ok (.ldc2_w 139, 3) := by decide +kernel
theorem dX12_on_11 : decode cX12_on 11 = .ok (.lsub, 1) := by decide +kernel
theorem dX12_on_12 : decode cX12_on 12 = .ok (.lstore 4, 2) := by decide +kernel
theorem dX12_on_14 : decode cX12_on 14 = .ok (.iload_n 3, 1) := by decide +kernel
theorem dX12_on_15 : decode cX12_on 15 = .ok (.ifCond .le 19, 3) := by decide +kernel
theorem dX12_on_18 : decode cX12_on 18 = .ok (.ldc2_w 137, 3) := by decide +kernel
theorem dX12_on_21 : decode cX12_on 21 = .ok (.lload 4, 2) := by decide +kernel
theorem dX12_on_23 : decode cX12_on 23 = .ok (.lmul, 1) := by decide +kernel
theorem dX12_on_24 : decode cX12_on 24 = .ok (.iload_n 3, 1) := by decide +kernel
theorem dX12_on_25 : decode cX12_on 25 = .ok (.i2l, 1) := by decide +kernel
theorem dX12_on_26 : decode cX12_on 26 = .ok (.ladd, 1) := by decide +kernel
theorem dX12_on_27 : decode cX12_on 27 = .ok (.ldc2_w 139, 3) := by decide +kernel
theorem dX12_on_30 : decode cX12_on 30 = .ok (.lsub, 1) := by decide +kernel
theorem dX12_on_31 : decode cX12_on 31 = .ok (.goto 5, 3) := by decide +kernel
theorem dX12_on_34 : decode cX12_on 34 = .ok (.lload 4, 2) := by decide +kernel
theorem dX12_on_36 : decode cX12_on 36 = .ok (.lreturn, 1) := by decide +kernel
theorem dX12_wordOf_0 : decode cX12_wordOf 0 = .ok (.iload_n 0, 1) := by decide +kernel
theorem dX12_wordOf_1 : decode cX12_wordOf 1 = .ok (.tableswitch 301 0 13 #[71, 83, 101, 119, 137, 155, 173, 192, 211, 229, 241, 259, 271, 289], 71) := by decide +kernel
theorem dX12_wordOf_72 : decode cX12_wordOf 72 = .ok (.bipush 108, 2) := by decide +kernel
theorem dX12_wordOf_74 : decode cX12_wordOf 74 = .ok (.bipush 97, 2) := by decide +kernel
theorem dX12_wordOf_76 : decode cX12_wordOf 76 = .ok (.bipush 110, 2) := by decide +kernel
theorem dX12_wordOf_78 : decode cX12_wordOf 78 = .ok (.bipush 100, 2) := by decide +kernel
theorem dX12_wordOf_80 : decode cX12_wordOf 80 = .ok (.invokestatic 141, 3) := by decide +kernel
theorem dX12_wordOf_83 : decode cX12_wordOf 83 = .ok (.lreturn, 1) := by decide +kernel
theorem dX12_wordOf_84 : decode cX12_wordOf 84 = .ok (.bipush 116, 2) := by decide +kernel
theorem dX12_wordOf_86 : decode cX12_wordOf 86 = .ok (.bipush 104, 2) := by decide +kernel
theorem dX12_wordOf_88 : decode cX12_wordOf 88 = .ok (.bipush 105, 2) := by decide +kernel
theorem dX12_wordOf_90 : decode cX12_wordOf 90 = .ok (.bipush 110, 2) := by decide +kernel
theorem dX12_wordOf_92 : decode cX12_wordOf 92 = .ok (.invokestatic 141, 3) := by decide +kernel
theorem dX12_wordOf_95 : decode cX12_wordOf 95 = .ok (.bipush 103, 2) := by decide +kernel
theorem dX12_wordOf_97 : decode cX12_wordOf 97 = .ok (.iconst 0, 1) := by decide +kernel
theorem dX12_wordOf_98 : decode cX12_wordOf 98 = .ok (.invokestatic 145, 3) := by decide +kernel
theorem dX12_wordOf_101 : decode cX12_wordOf 101 = .ok (.lreturn, 1) := by decide +kernel
theorem dX12_wordOf_102 : decode cX12_wordOf 102 = .ok (.bipush 97, 2) := by decide +kernel
theorem dX12_wordOf_104 : decode cX12_wordOf 104 = .ok (.bipush 112, 2) := by decide +kernel
theorem dX12_wordOf_106 : decode cX12_wordOf 106 = .ok (.bipush 97, 2) := by decide +kernel
theorem dX12_wordOf_108 : decode cX12_wordOf 108 = .ok (.bipush 114, 2) := by decide +kernel
theorem dX12_wordOf_110 : decode cX12_wordOf 110 = .ok (.invokestatic 141, 3) := by decide +kernel
theorem dX12_wordOf_113 : decode cX12_wordOf 113 = .ok (.bipush 116, 2) := by decide +kernel
theorem dX12_wordOf_115 : decode cX12_wordOf 115 = .ok (.iconst 0, 1) := by decide +kernel
theorem dX12_wordOf_116 : decode cX12_wordOf 116 = .ok (.invokestatic 145, 3) := by decide +kernel
theorem dX12_wordOf_119 : decode cX12_wordOf 119 = .ok (.lreturn, 1) := by decide +kernel
theorem dX12_wordOf_120 : decode cX12_wordOf 120 = .ok (.bipush 112, 2) := by decide +kernel
theorem dX12_wordOf_122 : decode cX12_wordOf 122 = .ok (.bipush 108, 2) := by decide +kernel
theorem dX12_wordOf_124 : decode cX12_wordOf 124 = .ok (.bipush 97, 2) := by decide +kernel
theorem dX12_wordOf_126 : decode cX12_wordOf 126 = .ok (.bipush 99, 2) := by decide +kernel
theorem dX12_wordOf_128 : decode cX12_wordOf 128 = .ok (.invokestatic 141, 3) := by decide +kernel
theorem dX12_wordOf_131 : decode cX12_wordOf 131 = .ok (.bipush 101, 2) := by decide +kernel
theorem dX12_wordOf_133 : decode cX12_wordOf 133 = .ok (.iconst 0, 1) := by decide +kernel
theorem dX12_wordOf_134 : decode cX12_wordOf 134 = .ok (.invokestatic 145, 3) := by decide +kernel
theorem dX12_wordOf_137 : decode cX12_wordOf 137 = .ok (.lreturn, 1) := by decide +kernel
theorem dX12_wordOf_138 : decode cX12_wordOf 138 = .ok (.bipush 102, 2) := by decide +kernel
theorem dX12_wordOf_140 : decode cX12_wordOf 140 = .ok (.bipush 105, 2) := by decide +kernel
theorem dX12_wordOf_142 : decode cX12_wordOf 142 = .ok (.bipush 114, 2) := by decide +kernel
theorem dX12_wordOf_144 : decode cX12_wordOf 144 = .ok (.bipush 115, 2) := by decide +kernel
theorem dX12_wordOf_146 : decode cX12_wordOf 146 = .ok (.invokestatic 141, 3) := by decide +kernel
theorem dX12_wordOf_149 : decode cX12_wordOf 149 = .ok (.bipush 116, 2) := by decide +kernel
theorem dX12_wordOf_151 : decode cX12_wordOf 151 = .ok (.iconst 0, 1) := by decide +kernel
theorem dX12_wordOf_152 : decode cX12_wordOf 152 = .ok (.invokestatic 145, 3) := by decide +kernel
theorem dX12_wordOf_155 : decode cX12_wordOf 155 = .ok (.lreturn, 1) := by decide +kernel
theorem dX12_wordOf_156 : decode cX12_wordOf 156 = .ok (.bipush 112, 2) := by decide +kernel
theorem dX12_wordOf_158 : decode cX12_wordOf 158 = .ok (.bipush 97, 2) := by decide +kernel
theorem dX12_wordOf_160 : decode cX12_wordOf 160 = .ok (.bipush 112, 2) := by decide +kernel
theorem dX12_wordOf_162 : decode cX12_wordOf 162 = .ok (.bipush 101, 2) := by decide +kernel
theorem dX12_wordOf_164 : decode cX12_wordOf 164 = .ok (.invokestatic 141, 3) := by decide +kernel
theorem dX12_wordOf_167 : decode cX12_wordOf 167 = .ok (.bipush 114, 2) := by decide +kernel
theorem dX12_wordOf_169 : decode cX12_wordOf 169 = .ok (.iconst 0, 1) := by decide +kernel
theorem dX12_wordOf_170 : decode cX12_wordOf 170 = .ok (.invokestatic 145, 3) := by decide +kernel
theorem dX12_wordOf_173 : decode cX12_wordOf 173 = .ok (.lreturn, 1) := by decide +kernel
theorem dX12_wordOf_174 : decode cX12_wordOf 174 = .ok (.bipush 110, 2) := by decide +kernel
theorem dX12_wordOf_176 : decode cX12_wordOf 176 = .ok (.bipush 97, 2) := by decide +kernel
theorem dX12_wordOf_178 : decode cX12_wordOf 178 = .ok (.bipush 114, 2) := by decide +kernel
theorem dX12_wordOf_180 : decode cX12_wordOf 180 = .ok (.bipush 114, 2) := by decide +kernel
theorem dX12_wordOf_182 : decode cX12_wordOf 182 = .ok (.invokestatic 141, 3) := by decide +kernel
theorem dX12_wordOf_185 : decode cX12_wordOf 185 = .ok (.bipush 111, 2) := by decide +kernel
theorem dX12_wordOf_187 : decode cX12_wordOf 187 = .ok (.bipush 119, 2) := by decide +kernel
theorem dX12_wordOf_189 : decode cX12_wordOf 189 = .ok (.invokestatic 145, 3) := by decide +kernel
theorem dX12_wordOf_192 : decode cX12_wordOf 192 = .ok (.lreturn, 1) := by decide +kernel
theorem dX12_wordOf_193 : decode cX12_wordOf 193 = .ok (.bipush 103, 2) := by decide +kernel
theorem dX12_wordOf_195 : decode cX12_wordOf 195 = .ok (.bipush 114, 2) := by decide +kernel
theorem dX12_wordOf_197 : decode cX12_wordOf 197 = .ok (.bipush 111, 2) := by decide +kernel
theorem dX12_wordOf_199 : decode cX12_wordOf 199 = .ok (.bipush 117, 2) := by decide +kernel
theorem dX12_wordOf_201 : decode cX12_wordOf 201 = .ok (.invokestatic 141, 3) := by decide +kernel
theorem dX12_wordOf_204 : decode cX12_wordOf 204 = .ok (.bipush 110, 2) := by decide +kernel
theorem dX12_wordOf_206 : decode cX12_wordOf 206 = .ok (.bipush 100, 2) := by decide +kernel
theorem dX12_wordOf_208 : decode cX12_wordOf 208 = .ok (.invokestatic 145, 3) := by decide +kernel
theorem dX12_wordOf_211 : decode cX12_wordOf 211 = .ok (.lreturn, 1) := by decide +kernel
theorem dX12_wordOf_212 : decode cX12_wordOf 212 = .ok (.bipush 118, 2) := by decide +kernel
theorem dX12_wordOf_214 : decode cX12_wordOf 214 = .ok (.bipush 111, 2) := by decide +kernel
theorem dX12_wordOf_216 : decode cX12_wordOf 216 = .ok (.bipush 105, 2) := by decide +kernel
theorem dX12_wordOf_218 : decode cX12_wordOf 218 = .ok (.bipush 99, 2) := by decide +kernel
theorem dX12_wordOf_220 : decode cX12_wordOf 220 = .ok (.invokestatic 141, 3) := by decide +kernel
theorem dX12_wordOf_223 : decode cX12_wordOf 223 = .ok (.bipush 101, 2) := by decide +kernel
theorem dX12_wordOf_225 : decode cX12_wordOf 225 = .ok (.iconst 0, 1) := by decide +kernel
theorem dX12_wordOf_226 : decode cX12_wordOf 226 = .ok (.invokestatic 145, 3) := by decide +kernel
theorem dX12_wordOf_229 : decode cX12_wordOf 229 = .ok (.lreturn, 1) := by decide +kernel
theorem dX12_wordOf_230 : decode cX12_wordOf 230 = .ok (.bipush 108, 2) := by decide +kernel
theorem dX12_wordOf_232 : decode cX12_wordOf 232 = .ok (.bipush 111, 2) := by decide +kernel
theorem dX12_wordOf_234 : decode cX12_wordOf 234 = .ok (.bipush 117, 2) := by decide +kernel
theorem dX12_wordOf_236 : decode cX12_wordOf 236 = .ok (.bipush 100, 2) := by decide +kernel
theorem dX12_wordOf_238 : decode cX12_wordOf 238 = .ok (.invokestatic 141, 3) := by decide +kernel
theorem dX12_wordOf_241 : decode cX12_wordOf 241 = .ok (.lreturn, 1) := by decide +kernel
theorem dX12_wordOf_242 : decode cX12_wordOf 242 = .ok (.bipush 115, 2) := by decide +kernel
theorem dX12_wordOf_244 : decode cX12_wordOf 244 = .ok (.bipush 104, 2) := by decide +kernel
theorem dX12_wordOf_246 : decode cX12_wordOf 246 = .ok (.bipush 97, 2) := by decide +kernel
theorem dX12_wordOf_248 : decode cX12_wordOf 248 = .ok (.bipush 114, 2) := by decide +kernel
theorem dX12_wordOf_250 : decode cX12_wordOf 250 = .ok (.invokestatic 141, 3) := by decide +kernel
theorem dX12_wordOf_253 : decode cX12_wordOf 253 = .ok (.bipush 112, 2) := by decide +kernel
theorem dX12_wordOf_255 : decode cX12_wordOf 255 = .ok (.iconst 0, 1) := by decide +kernel
theorem dX12_wordOf_256 : decode cX12_wordOf 256 = .ok (.invokestatic 145, 3) := by decide +kernel
theorem dX12_wordOf_259 : decode cX12_wordOf 259 = .ok (.lreturn, 1) := by decide +kernel
theorem dX12_wordOf_260 : decode cX12_wordOf 260 = .ok (.bipush 98, 2) := by decide +kernel
theorem dX12_wordOf_262 : decode cX12_wordOf 262 = .ok (.bipush 101, 2) := by decide +kernel
theorem dX12_wordOf_264 : decode cX12_wordOf 264 = .ok (.bipush 97, 2) := by decide +kernel
theorem dX12_wordOf_266 : decode cX12_wordOf 266 = .ok (.bipush 114, 2) := by decide +kernel
theorem dX12_wordOf_268 : decode cX12_wordOf 268 = .ok (.invokestatic 141, 3) := by decide +kernel
theorem dX12_wordOf_271 : decode cX12_wordOf 271 = .ok (.lreturn, 1) := by decide +kernel
theorem dX12_wordOf_272 : decode cX12_wordOf 272 = .ok (.bipush 119, 2) := by decide +kernel
theorem dX12_wordOf_274 : decode cX12_wordOf 274 = .ok (.bipush 111, 2) := by decide +kernel
theorem dX12_wordOf_276 : decode cX12_wordOf 276 = .ok (.bipush 114, 2) := by decide +kernel
theorem dX12_wordOf_278 : decode cX12_wordOf 278 = .ok (.bipush 116, 2) := by decide +kernel
theorem dX12_wordOf_280 : decode cX12_wordOf 280 = .ok (.invokestatic 141, 3) := by decide +kernel
theorem dX12_wordOf_283 : decode cX12_wordOf 283 = .ok (.bipush 104, 2) := by decide +kernel
theorem dX12_wordOf_285 : decode cX12_wordOf 285 = .ok (.iconst 0, 1) := by decide +kernel
theorem dX12_wordOf_286 : decode cX12_wordOf 286 = .ok (.invokestatic 145, 3) := by decide +kernel
theorem dX12_wordOf_289 : decode cX12_wordOf 289 = .ok (.lreturn, 1) := by decide +kernel
theorem dX12_wordOf_290 : decode cX12_wordOf 290 = .ok (.bipush 100, 2) := by decide +kernel
theorem dX12_wordOf_292 : decode cX12_wordOf 292 = .ok (.bipush 101, 2) := by decide +kernel
theorem dX12_wordOf_294 : decode cX12_wordOf 294 = .ok (.bipush 97, 2) := by decide +kernel
theorem dX12_wordOf_296 : decode cX12_wordOf 296 = .ok (.bipush 100, 2) := by decide +kernel
theorem dX12_wordOf_298 : decode cX12_wordOf 298 = .ok (.invokestatic 141, 3) := by decide +kernel
theorem dX12_wordOf_301 : decode cX12_wordOf 301 = .ok (.lreturn, 1) := by decide +kernel
theorem dX12_wordOf_302 : decode cX12_wordOf 302 = .ok (.bipush 116, 2) := by decide +kernel
theorem dX12_wordOf_304 : decode cX12_wordOf 304 = .ok (.bipush 104, 2) := by decide +kernel
theorem dX12_wordOf_306 : decode cX12_wordOf 306 = .ok (.bipush 101, 2) := by decide +kernel
theorem dX12_wordOf_308 : decode cX12_wordOf 308 = .ok (.bipush 114, 2) := by decide +kernel
theorem dX12_wordOf_310 : decode cX12_wordOf 310 = .ok (.invokestatic 141, 3) := by decide +kernel
theorem dX12_wordOf_313 : decode cX12_wordOf 313 = .ok (.bipush 101, 2) := by decide +kernel
theorem dX12_wordOf_315 : decode cX12_wordOf 315 = .ok (.iconst 0, 1) := by decide +kernel
theorem dX12_wordOf_316 : decode cX12_wordOf 316 = .ok (.invokestatic 145, 3) := by decide +kernel
theorem dX12_wordOf_319 : decode cX12_wordOf 319 = .ok (.lreturn, 1) := by decide +kernel
theorem dX12_isWord_0 : decode cX12_isWord 0 = .ok (.aload_n 0, 1) := by decide +kernel
theorem dX12_isWord_1 : decode cX12_isWord 1 = .ok (.getfield 116, 3) := by decide +kernel
theorem dX12_isWord_4 : decode cX12_isWord 4 = .ok (.iconst 2, 1) := by decide +kernel
theorem dX12_isWord_5 : decode cX12_isWord 5 = .ok (.if_icmp .ne 19, 3) := by decide +kernel
theorem dX12_isWord_8 : decode cX12_isWord 8 = .ok (.aload_n 0, 1) := by decide +kernel
theorem dX12_isWord_9 : decode cX12_isWord 9 = .ok (.getfield 126, 3) := by decide +kernel
theorem dX12_isWord_12 : decode cX12_isWord 12 = .ok (.iload_n 1, 1) := by decide +kernel
theorem dX12_isWord_13 : decode cX12_isWord 13 = .ok (.invokestatic 149, 3) := by decide +kernel
theorem dX12_isWord_16 : decode cX12_isWord 16 = .ok (.lcmp, 1) := by decide +kernel
theorem dX12_isWord_17 : decode cX12_isWord 17 = .ok (.ifCond .ne 7, 3) := by decide +kernel
theorem dX12_isWord_20 : decode cX12_isWord 20 = .ok (.iconst 1, 1) := by decide +kernel
theorem dX12_isWord_21 : decode cX12_isWord 21 = .ok (.goto 4, 3) := by decide +kernel
theorem dX12_isWord_24 : decode cX12_isWord 24 = .ok (.iconst 0, 1) := by decide +kernel
theorem dX12_isWord_25 : decode cX12_isWord 25 = .ok (.ireturn, 1) := by decide +kernel
theorem dX12_isName_0 : decode cX12_isName 0 = .ok (.aload_n 0, 1) := by decide +kernel
theorem dX12_isName_1 : decode cX12_isName 1 = .ok (.getfield 116, 3) := by decide +kernel
theorem dX12_isName_4 : decode cX12_isName 4 = .ok (.iconst 2, 1) := by decide +kernel
theorem dX12_isName_5 : decode cX12_isName 5 = .ok (.if_icmp .eq 5, 3) := by decide +kernel
theorem dX12_isName_8 : decode cX12_isName 8 = .ok (.iconst 0, 1) := by decide +kernel
theorem dX12_isName_9 : decode cX12_isName 9 = .ok (.ireturn, 1) := by decide +kernel
theorem dX12_isName_10 : decode cX12_isName 10 = .ok (.iconst 0, 1) := by decide +kernel
theorem dX12_isName_11 : decode cX12_isName 11 = .ok (.istore_n 1, 1) := by decide +kernel
theorem dX12_isName_12 : decode cX12_isName 12 = .ok (.iload_n 1, 1) := by decide +kernel
theorem dX12_isName_13 : decode cX12_isName 13 = .ok (.bipush 14, 2) := by decide +kernel
theorem dX12_isName_15 : decode cX12_isName 15 = .ok (.if_icmp .gt 23, 3) := by decide +kernel
theorem dX12_isName_18 : decode cX12_isName 18 = .ok (.aload_n 0, 1) := by decide +kernel
theorem dX12_isName_19 : decode cX12_isName 19 = .ok (.getfield 126, 3) := by decide +kernel
theorem dX12_isName_22 : decode cX12_isName 22 = .ok (.iload_n 1, 1) := by decide +kernel
theorem dX12_isName_23 : decode cX12_isName 23 = .ok (.invokestatic 149, 3) := by decide +kernel
theorem dX12_isName_26 : decode cX12_isName 26 = .ok (.lcmp, 1) := by decide +kernel
theorem dX12_isName_27 : decode cX12_isName 27 = .ok (.ifCond .ne 5, 3) := by decide +kernel
theorem dX12_isName_30 : decode cX12_isName 30 = .ok (.iconst 0, 1) := by decide +kernel
theorem dX12_isName_31 : decode cX12_isName 31 = .ok (.ireturn, 1) := by decide +kernel
theorem dX12_isName_32 : decode cX12_isName 32 = .ok (.iinc 1 1, 3) := by decide +kernel
theorem dX12_isName_35 : decode cX12_isName 35 = .ok (.goto (-23), 3) := by decide +kernel
theorem dX12_isName_38 : decode cX12_isName 38 = .ok (.iconst 1, 1) := by decide +kernel
theorem dX12_isName_39 : decode cX12_isName 39 = .ok (.ireturn, 1) := by decide +kernel
theorem dX12_bad_0 : decode cX12_bad 0 = .ok (.aload_n 0, 1) := by decide +kernel
theorem dX12_bad_1 : decode cX12_bad 1 = .ok (.aload_n 0, 1) := by decide +kernel
theorem dX12_bad_2 : decode cX12_bad 2 = .ok (.getfield 116, 3) := by decide +kernel
theorem dX12_bad_5 : decode cX12_bad 5 = .ok (.iconst 1, 1) := by decide +kernel
theorem dX12_bad_6 : decode cX12_bad 6 = .ok (.if_icmp .ne 7, 3) := by decide +kernel
theorem dX12_bad_9 : decode cX12_bad 9 = .ok (.iconst 1, 1) := by decide +kernel
theorem dX12_bad_10 : decode cX12_bad 10 = .ok (.goto 4, 3) := by decide +kernel
theorem dX12_bad_13 : decode cX12_bad 13 = .ok (.iload_n 1, 1) := by decide +kernel
theorem dX12_bad_14 : decode cX12_bad 14 = .ok (.putfield 153, 3) := by decide +kernel
theorem dX12_bad_17 : decode cX12_bad 17 = .ok (.aload_n 0, 1) := by decide +kernel
theorem dX12_bad_18 : decode cX12_bad 18 = .ok (.aload_n 0, 1) := by decide +kernel
theorem dX12_bad_19 : decode cX12_bad 19 = .ok (.getfield 113, 3) := by decide +kernel
theorem dX12_bad_22 : decode cX12_bad 22 = .ok (.putfield 156, 3) := by decide +kernel
theorem dX12_bad_25 : decode cX12_bad 25 = .ok (.iconst 0, 1) := by decide +kernel
theorem dX12_bad_26 : decode cX12_bad 26 = .ok (.ireturn, 1) := by decide +kernel
theorem dX12_readNumber_0 : decode cX12_readNumber 0 = .ok (.aload_n 0, 1) := by decide +kernel
theorem dX12_readNumber_1 : decode cX12_readNumber 1 = .ok (.getfield 116, 3) := by decide +kernel
theorem dX12_readNumber_4 : decode cX12_readNumber 4 = .ok (.iconst 3, 1) := by decide +kernel
theorem dX12_readNumber_5 : decode cX12_readNumber 5 = .ok (.if_icmp .eq 9, 3) := by decide +kernel
theorem dX12_readNumber_8 : decode cX12_readNumber 8 = .ok (.aload_n 0, 1) := by decide +kernel
theorem dX12_readNumber_9 : decode cX12_readNumber 9 = .ok (.iconst 1, 1) := by decide +kernel
theorem dX12_readNumber_10 : decode cX12_readNumber 10 = .ok (.invokevirtual 159, 3) := by decide +kernel
theorem dX12_readNumber_13 : decode cX12_readNumber 13 = .ok (.ireturn, 1) := by decide +kernel
theorem dX12_readNumber_14 : decode cX12_readNumber 14 = .ok (.aload_n 0, 1) := by decide +kernel
theorem dX12_readNumber_15 : decode cX12_readNumber 15 = .ok (.getfield 130, 3) := by decide +kernel
theorem dX12_readNumber_18 : decode cX12_readNumber 18 = .ok (.iload_n 1, 1) := by decide +kernel
theorem dX12_readNumber_19 : decode cX12_readNumber 19 = .ok (.iload_n 2, 1) := by decide +kernel
theorem dX12_readNumber_20 : decode cX12_readNumber 20 = .ok (.invokestatic 162, 3) := by decide +kernel
theorem dX12_readNumber_23 : decode cX12_readNumber 23 = .ok (.ifCond .ne 9, 3) := by decide +kernel
theorem dX12_readNumber_26 : decode cX12_readNumber 26 = .ok (.aload_n 0, 1) := by decide +kernel
theorem dX12_readNumber_27 : decode cX12_readNumber 27 = .ok (.iconst 2, 1) := by decide +kernel
theorem dX12_readNumber_28 : decode cX12_readNumber 28 = .ok (.invokevirtual 159, 3) := by decide +kernel
theorem dX12_readNumber_31 : decode cX12_readNumber 31 = .ok (.ireturn, 1) := by decide +kernel
theorem dX12_readNumber_32 : decode cX12_readNumber 32 = .ok (.aload_n 0, 1) := by decide +kernel
theorem dX12_readNumber_33 : decode cX12_readNumber 33 = .ok (.aload_n 0, 1) := by decide +kernel
theorem dX12_readNumber_34 : decode cX12_readNumber 34 = .ok (.getfield 130, 3) := by decide +kernel
theorem dX12_readNumber_37 : decode cX12_readNumber 37 = .ok (.putfield 166, 3) := by decide +kernel
theorem dX12_readNumber_40 : decode cX12_readNumber 40 = .ok (.aload_n 0, 1) := by decide +kernel
theorem dX12_readNumber_41 : decode cX12_readNumber 41 = .ok (.invokevirtual 169, 3) := by decide +kernel
theorem dX12_readNumber_44 : decode cX12_readNumber 44 = .ok (.iconst 1, 1) := by decide +kernel
theorem dX12_readNumber_45 : decode cX12_readNumber 45 = .ok (.ireturn, 1) := by decide +kernel
theorem dX12_lay_0 : decode cX12_lay 0 = .ok (.aload_n 0, 1) := by decide +kernel
theorem dX12_lay_1 : decode cX12_lay 1 = .ok (.getfield 172, 3) := by decide +kernel
theorem dX12_lay_4 : decode cX12_lay 4 = .ok (.ifCond .eq 4, 3) := by decide +kernel
theorem dX12_lay_7 : decode cX12_lay 7 = .ok (.return_, 1) := by decide +kernel
theorem dX12_lay_8 : decode cX12_lay 8 = .ok (.aload_n 0, 1) := by decide +kernel
theorem dX12_lay_9 : decode cX12_lay 9 = .ok (.iconst 1, 1) := by decide +kernel
theorem dX12_lay_10 : decode cX12_lay 10 = .ok (.putfield 172, 3) := by decide +kernel
theorem dX12_lay_13 : decode cX12_lay 13 = .ok (.aload_n 0, 1) := by decide +kernel
theorem dX12_lay_14 : decode cX12_lay 14 = .ok (.getfield 13, 3) := by decide +kernel
theorem dX12_lay_17 : decode cX12_lay 17 = .ok (.iconst 3, 1) := by decide +kernel
theorem dX12_lay_18 : decode cX12_lay 18 = .ok (.bipush 20, 2) := by decide +kernel
theorem dX12_lay_20 : decode cX12_lay 20 = .ok (.iastore, 1) := by decide +kernel
theorem dX12_lay_21 : decode cX12_lay 21 = .ok (.iconst 0, 1) := by decide +kernel
theorem dX12_lay_22 : decode cX12_lay 22 = .ok (.istore_n 1, 1) := by decide +kernel
theorem dX12_lay_23 : decode cX12_lay 23 = .ok (.iload_n 1, 1) := by decide +kernel
theorem dX12_lay_24 : decode cX12_lay 24 = .ok (.bipush 16, 2) := by decide +kernel
theorem dX12_lay_26 : decode cX12_lay 26 = .ok (.if_icmp .ge 22, 3) := by decide +kernel
theorem dX12_lay_29 : decode cX12_lay 29 = .ok (.aload_n 0, 1) := by decide +kernel
theorem dX12_lay_30 : decode cX12_lay 30 = .ok (.getfield 13, 3) := by decide +kernel
theorem dX12_lay_33 : decode cX12_lay 33 = .ok (.sipush 340, 3) := by decide +kernel
theorem dX12_lay_36 : decode cX12_lay 36 = .ok (.iconst 2, 1) := by decide +kernel
theorem dX12_lay_37 : decode cX12_lay 37 = .ok (.iload_n 1, 1) := by decide +kernel
theorem dX12_lay_38 : decode cX12_lay 38 = .ok (.imul, 1) := by decide +kernel
theorem dX12_lay_39 : decode cX12_lay 39 = .ok (.iadd, 1) := by decide +kernel
theorem dX12_lay_40 : decode cX12_lay 40 = .ok (.iconst (-1), 1) := by decide +kernel
theorem dX12_lay_41 : decode cX12_lay 41 = .ok (.iastore, 1) := by decide +kernel
theorem dX12_lay_42 : decode cX12_lay 42 = .ok (.iinc 1 1, 3) := by decide +kernel
theorem dX12_lay_45 : decode cX12_lay 45 = .ok (.goto (-22), 3) := by decide +kernel
theorem dX12_lay_48 : decode cX12_lay 48 = .ok (.return_, 1) := by decide +kernel
theorem dX12_things_0 : decode cX12_things 0 = .ok (.aload_n 0, 1) := by decide +kernel
theorem dX12_things_1 : decode cX12_things 1 = .ok (.getfield 13, 3) := by decide +kernel
theorem dX12_things_4 : decode cX12_things 4 = .ok (.iconst 1, 1) := by decide +kernel
theorem dX12_things_5 : decode cX12_things 5 = .ok (.iaload, 1) := by decide +kernel
theorem dX12_things_6 : decode cX12_things 6 = .ok (.ireturn, 1) := by decide +kernel
theorem dX12_isThing_0 : decode cX12_isThing 0 = .ok (.iload_n 1, 1) := by decide +kernel
theorem dX12_isThing_1 : decode cX12_isThing 1 = .ok (.ifCond .lt 15, 3) := by decide +kernel
theorem dX12_isThing_4 : decode cX12_isThing 4 = .ok (.iload_n 1, 1) := by decide +kernel
theorem dX12_isThing_5 : decode cX12_isThing 5 = .ok (.aload_n 0, 1) := by decide +kernel
theorem dX12_isThing_6 : decode cX12_isThing 6 = .ok (.invokevirtual 176, 3) := by decide +kernel
theorem dX12_isThing_9 : decode cX12_isThing 9 = .ok (.if_icmp .ge 7, 3) := by decide +kernel
theorem dX12_isThing_12 : decode cX12_isThing 12 = .ok (.iconst 1, 1) := by decide +kernel
theorem dX12_isThing_13 : decode cX12_isThing 13 = .ok (.goto 4, 3) := by decide +kernel
theorem dX12_isThing_16 : decode cX12_isThing 16 = .ok (.iconst 0, 1) := by decide +kernel
theorem dX12_isThing_17 : decode cX12_isThing 17 = .ok (.ireturn, 1) := by decide +kernel
theorem dX12_of_0 : decode cX12_of 0 = .ok (.aload_n 0, 1) := by decide +kernel
theorem dX12_of_1 : decode cX12_of 1 = .ok (.getfield 13, 3) := by decide +kernel
theorem dX12_of_4 : decode cX12_of 4 = .ok (.bipush 20, 2) := by decide +kernel
theorem dX12_of_6 : decode cX12_of 6 = .ok (.bipush 20, 2) := by decide +kernel
theorem dX12_of_8 : decode cX12_of 8 = .ok (.iload_n 1, 1) := by decide +kernel
theorem dX12_of_9 : decode cX12_of 9 = .ok (.imul, 1) := by decide +kernel
theorem dX12_of_10 : decode cX12_of 10 = .ok (.iadd, 1) := by decide +kernel
theorem dX12_of_11 : decode cX12_of 11 = .ok (.iload_n 2, 1) := by decide +kernel
theorem dX12_of_12 : decode cX12_of 12 = .ok (.iadd, 1) := by decide +kernel
theorem dX12_of_13 : decode cX12_of 13 = .ok (.iaload, 1) := by decide +kernel
theorem dX12_of_14 : decode cX12_of 14 = .ok (.ireturn, 1) := by decide +kernel
theorem dX12_isDead_0 : decode cX12_isDead 0 = .ok (.aload_n 0, 1) := by decide +kernel
theorem dX12_isDead_1 : decode cX12_isDead 1 = .ok (.iload_n 1, 1) := by decide +kernel
theorem dX12_isDead_2 : decode cX12_isDead 2 = .ok (.bipush 8, 2) := by decide +kernel
theorem dX12_isDead_4 : decode cX12_isDead 4 = .ok (.invokevirtual 180, 3) := by decide +kernel
theorem dX12_isDead_7 : decode cX12_isDead 7 = .ok (.iconst (-1), 1) := by decide +kernel
theorem dX12_isDead_8 : decode cX12_isDead 8 = .ok (.if_icmp .eq 7, 3) := by decide +kernel
theorem dX12_isDead_11 : decode cX12_isDead 11 = .ok (.iconst 1, 1) := by decide +kernel
theorem dX12_isDead_12 : decode cX12_isDead 12 = .ok (.goto 4, 3) := by decide +kernel
theorem dX12_isDead_15 : decode cX12_isDead 15 = .ok (.iconst 0, 1) := by decide +kernel
theorem dX12_isDead_16 : decode cX12_isDead 16 = .ok (.ireturn, 1) := by decide +kernel
theorem dX12_at_0 : decode cX12_at 0 = .ok (.aload_n 0, 1) := by decide +kernel
theorem dX12_at_1 : decode cX12_at 1 = .ok (.getfield 13, 3) := by decide +kernel
theorem dX12_at_4 : decode cX12_at 4 = .ok (.sipush 340, 3) := by decide +kernel
theorem dX12_at_7 : decode cX12_at 7 = .ok (.iconst 2, 1) := by decide +kernel
theorem dX12_at_8 : decode cX12_at 8 = .ok (.iload_n 1, 1) := by decide +kernel
theorem dX12_at_9 : decode cX12_at 9 = .ok (.imul, 1) := by decide +kernel
theorem dX12_at_10 : decode cX12_at 10 = .ok (.iadd, 1) := by decide +kernel
theorem dX12_at_11 : decode cX12_at 11 = .ok (.iaload, 1) := by decide +kernel
theorem dX12_at_12 : decode cX12_at 12 = .ok (.ireturn, 1) := by decide +kernel
theorem dX12_voice_0 : decode cX12_voice 0 = .ok (.aload_n 0, 1) := by decide +kernel
theorem dX12_voice_1 : decode cX12_voice 1 = .ok (.getfield 13, 3) := by decide +kernel
theorem dX12_voice_4 : decode cX12_voice 4 = .ok (.sipush 340, 3) := by decide +kernel
theorem dX12_voice_7 : decode cX12_voice 7 = .ok (.iconst 2, 1) := by decide +kernel
theorem dX12_voice_8 : decode cX12_voice 8 = .ok (.iload_n 1, 1) := by decide +kernel
theorem dX12_voice_9 : decode cX12_voice 9 = .ok (.imul, 1) := by decide +kernel
theorem dX12_voice_10 : decode cX12_voice 10 = .ok (.iadd, 1) := by decide +kernel
theorem dX12_voice_11 : decode cX12_voice 11 = .ok (.iconst 1, 1) := by decide +kernel
theorem dX12_voice_12 : decode cX12_voice 12 = .ok (.iadd, 1) := by decide +kernel
theorem dX12_voice_13 : decode cX12_voice 13 = .ok (.iaload, 1) := by decide +kernel
theorem dX12_voice_14 : decode cX12_voice 14 = .ok (.ireturn, 1) := by decide +kernel
theorem dX12_isUp_0 : decode cX12_isUp 0 = .ok (.aload_n 0, 1) := by decide +kernel
theorem dX12_isUp_1 : decode cX12_isUp 1 = .ok (.iload_n 1, 1) := by decide +kernel
theorem dX12_isUp_2 : decode cX12_isUp 2 = .ok (.invokevirtual 184, 3) := by decide +kernel
theorem dX12_isUp_5 : decode cX12_isUp 5 = .ok (.iconst (-1), 1) := by decide +kernel
theorem dX12_isUp_6 : decode cX12_isUp 6 = .ok (.if_icmp .eq 7, 3) := by decide +kernel
theorem dX12_isUp_9 : decode cX12_isUp 9 = .ok (.iconst 1, 1) := by decide +kernel
theorem dX12_isUp_10 : decode cX12_isUp 10 = .ok (.goto 4, 3) := by decide +kernel
theorem dX12_isUp_13 : decode cX12_isUp 13 = .ok (.iconst 0, 1) := by decide +kernel
theorem dX12_isUp_14 : decode cX12_isUp 14 = .ok (.ireturn, 1) := by decide +kernel
theorem dX12_put_0 : decode cX12_put 0 = .ok (.aload_n 0, 1) := by decide +kernel
theorem dX12_put_1 : decode cX12_put 1 = .ok (.getfield 13, 3) := by decide +kernel
theorem dX12_put_4 : decode cX12_put 4 = .ok (.sipush 340, 3) := by decide +kernel
theorem dX12_put_7 : decode cX12_put 7 = .ok (.iconst 2, 1) := by decide +kernel
theorem dX12_put_8 : decode cX12_put 8 = .ok (.iload_n 1, 1) := by decide +kernel
theorem dX12_put_9 : decode cX12_put 9 = .ok (.imul, 1) := by decide +kernel
theorem dX12_put_10 : decode cX12_put 10 = .ok (.iadd, 1) := by decide +kernel
theorem dX12_put_11 : decode cX12_put 11 = .ok (.iload_n 2, 1) := by decide +kernel
theorem dX12_put_12 : decode cX12_put 12 = .ok (.iastore, 1) := by decide +kernel
theorem dX12_put_13 : decode cX12_put 13 = .ok (.aload_n 0, 1) := by decide +kernel
theorem dX12_put_14 : decode cX12_put 14 = .ok (.getfield 13, 3) := by decide +kernel
theorem dX12_put_17 : decode cX12_put 17 = .ok (.sipush 340, 3) := by decide +kernel
theorem dX12_put_20 : decode cX12_put 20 = .ok (.iconst 2, 1) := by decide +kernel
theorem dX12_put_21 : decode cX12_put 21 = .ok (.iload_n 1, 1) := by decide +kernel
theorem dX12_put_22 : decode cX12_put 22 = .ok (.imul, 1) := by decide +kernel
theorem dX12_put_23 : decode cX12_put 23 = .ok (.iadd, 1) := by decide +kernel
theorem dX12_put_24 : decode cX12_put 24 = .ok (.iconst 1, 1) := by decide +kernel
theorem dX12_put_25 : decode cX12_put 25 = .ok (.iadd, 1) := by decide +kernel
theorem dX12_put_26 : decode cX12_put 26 = .ok (.iload_n 3, 1) := by decide +kernel
theorem dX12_put_27 : decode cX12_put 27 = .ok (.iastore, 1) := by decide +kernel
theorem dX12_put_28 : decode cX12_put 28 = .ok (.return_, 1) := by decide +kernel
theorem dX12_findRead_0 : decode cX12_findRead 0 = .ok (.iconst 0, 1) := by decide +kernel
theorem dX12_findRead_1 : decode cX12_findRead 1 = .ok (.istore_n 1, 1) := by decide +kernel
theorem dX12_findRead_2 : decode cX12_findRead 2 = .ok (.iload_n 1, 1) := by decide +kernel
theorem dX12_findRead_3 : decode cX12_findRead 3 = .ok (.aload_n 0, 1) := by decide +kernel
theorem dX12_findRead_4 : decode cX12_findRead 4 = .ok (.getfield 16, 3) := by decide +kernel
theorem dX12_findRead_7 : decode cX12_findRead 7 = .ok (.iconst 0, 1) := by decide +kernel
theorem dX12_findRead_8 : decode cX12_findRead 8 = .ok (.iaload, 1) := by decide +kernel
theorem dX12_findRead_9 : decode cX12_findRead 9 = .ok (.if_icmp .ge 25, 3) := by decide +kernel
theorem dX12_findRead_12 : decode cX12_findRead 12 = .ok (.aload_n 0, 1) := by decide +kernel
theorem dX12_findRead_13 : decode cX12_findRead 13 = .ok (.getfield 32, 3) := by decide +kernel
theorem dX12_findRead_16 : decode cX12_findRead 16 = .ok (.iload_n 1, 1) := by decide +kernel
theorem dX12_findRead_17 : decode cX12_findRead 17 = .ok (.laload, 1) := by decide +kernel
theorem dX12_findRead_18 : decode cX12_findRead 18 = .ok (.aload_n 0, 1) := by decide +kernel
theorem dX12_findRead_19 : decode cX12_findRead 19 = .ok (.getfield 126, 3) := by decide +kernel
theorem dX12_findRead_22 : decode cX12_findRead 22 = .ok (.lcmp, 1) := by decide +kernel
theorem dX12_findRead_23 : decode cX12_findRead 23 = .ok (.ifCond .ne 5, 3) := by decide +kernel
theorem dX12_findRead_26 : decode cX12_findRead 26 = .ok (.iload_n 1, 1) := by decide +kernel
theorem dX12_findRead_27 : decode cX12_findRead 27 = .ok (.ireturn, 1) := by decide +kernel
theorem dX12_findRead_28 : decode cX12_findRead 28 = .ok (.iinc 1 1, 3) := by decide +kernel
theorem dX12_findRead_31 : decode cX12_findRead 31 = .ok (.goto (-29), 3) := by decide +kernel
theorem dX12_findRead_34 : decode cX12_findRead 34 = .ok (.iconst 0, 1) := by decide +kernel
theorem dX12_findRead_35 : decode cX12_findRead 35 = .ok (.istore_n 1, 1) := by decide +kernel
theorem dX12_findRead_36 : decode cX12_findRead 36 = .ok (.iload_n 1, 1) := by decide +kernel
theorem dX12_findRead_37 : decode cX12_findRead 37 = .ok (.aload_n 0, 1) := by decide +kernel
theorem dX12_findRead_38 : decode cX12_findRead 38 = .ok (.getfield 16, 3) := by decide +kernel
theorem dX12_findRead_41 : decode cX12_findRead 41 = .ok (.iconst 1, 1) := by decide +kernel
theorem dX12_findRead_42 : decode cX12_findRead 42 = .ok (.iaload, 1) := by decide +kernel
theorem dX12_findRead_43 : decode cX12_findRead 43 = .ok (.if_icmp .ge 31, 3) := by decide +kernel
theorem dX12_findRead_46 : decode cX12_findRead 46 = .ok (.aload_n 0, 1) := by decide +kernel
theorem dX12_findRead_47 : decode cX12_findRead 47 = .ok (.getfield 32, 3) := by decide +kernel
theorem dX12_findRead_50 : decode cX12_findRead 50 = .ok (.bipush 8, 2) := by decide +kernel
theorem dX12_findRead_52 : decode cX12_findRead 52 = .ok (.iload_n 1, 1) := by decide +kernel
theorem dX12_findRead_53 : decode cX12_findRead 53 = .ok (.iadd, 1) := by decide +kernel
theorem dX12_findRead_54 : decode cX12_findRead 54 = .ok (.laload, 1) := by decide +kernel
theorem dX12_findRead_55 : decode cX12_findRead 55 = .ok (.aload_n 0, 1) := by decide +kernel
theorem dX12_findRead_56 : decode cX12_findRead 56 = .ok (.getfield 126, 3) := by decide +kernel
theorem dX12_findRead_59 : decode cX12_findRead 59 = .ok (.lcmp, 1) := by decide +kernel
theorem dX12_findRead_60 : decode cX12_findRead 60 = .ok (.ifCond .ne 8, 3) := by decide +kernel
theorem dX12_findRead_63 : decode cX12_findRead 63 = .ok (.bipush 8, 2) := by decide +kernel
theorem dX12_findRead_65 : decode cX12_findRead 65 = .ok (.iload_n 1, 1) := by decide +kernel
theorem dX12_findRead_66 : decode cX12_findRead 66 = .ok (.iadd, 1) := by decide +kernel
theorem dX12_findRead_67 : decode cX12_findRead 67 = .ok (.ireturn, 1) := by decide +kernel
theorem dX12_findRead_68 : decode cX12_findRead 68 = .ok (.iinc 1 1, 3) := by decide +kernel
theorem dX12_findRead_71 : decode cX12_findRead 71 = .ok (.goto (-35), 3) := by decide +kernel
theorem dX12_findRead_74 : decode cX12_findRead 74 = .ok (.iconst (-1), 1) := by decide +kernel
theorem dX12_findRead_75 : decode cX12_findRead 75 = .ok (.ireturn, 1) := by decide +kernel
theorem dX12_readNew_0 : decode cX12_readNew 0 = .ok (.aload_n 0, 1) := by decide +kernel
theorem dX12_readNew_1 : decode cX12_readNew 1 = .ok (.invokevirtual 187, 3) := by decide +kernel
theorem dX12_readNew_4 : decode cX12_readNew 4 = .ok (.ifCond .ne 9, 3) := by decide +kernel
theorem dX12_readNew_7 : decode cX12_readNew 7 = .ok (.aload_n 0, 1) := by decide +kernel
theorem dX12_readNew_8 : decode cX12_readNew 8 = .ok (.iconst 1, 1) := by decide +kernel
theorem dX12_readNew_9 : decode cX12_readNew 9 = .ok (.invokevirtual 159, 3) := by decide +kernel
theorem dX12_readNew_12 : decode cX12_readNew 12 = .ok (.ireturn, 1) := by decide +kernel
theorem dX12_readNew_13 : decode cX12_readNew 13 = .ok (.aload_n 0, 1) := by decide +kernel
theorem dX12_readNew_14 : decode cX12_readNew 14 = .ok (.invokevirtual 191, 3) := by decide +kernel
theorem dX12_readNew_17 : decode cX12_readNew 17 = .ok (.iconst (-1), 1) := by decide +kernel
theorem dX12_readNew_18 : decode cX12_readNew 18 = .ok (.if_icmp .eq 9, 3) := by decide +kernel
theorem dX12_readNew_21 : decode cX12_readNew 21 = .ok (.aload_n 0, 1) := by decide +kernel
theorem dX12_readNew_22 : decode cX12_readNew 22 = .ok (.iconst 3, 1) := by decide +kernel
theorem dX12_readNew_23 : decode cX12_readNew 23 = .ok (.invokevirtual 159, 3) := by decide +kernel
theorem dX12_readNew_26 : decode cX12_readNew 26 = .ok (.ireturn, 1) := by decide +kernel
theorem dX12_readNew_27 : decode cX12_readNew 27 = .ok (.aload_n 0, 1) := by decide +kernel
theorem dX12_readNew_28 : decode cX12_readNew 28 = .ok (.getfield 32, 3) := by decide +kernel
theorem dX12_readNew_31 : decode cX12_readNew 31 = .ok (.iload_n 1, 1) := by decide +kernel
theorem dX12_readNew_32 : decode cX12_readNew 32 = .ok (.aload_n 0, 1) := by decide +kernel
theorem dX12_readNew_33 : decode cX12_readNew 33 = .ok (.getfield 126, 3) := by decide +kernel
theorem dX12_readNew_36 : decode cX12_readNew 36 = .ok (.lastore, 1) := by decide +kernel
theorem dX12_readNew_37 : decode cX12_readNew 37 = .ok (.aload_n 0, 1) := by decide +kernel
theorem dX12_readNew_38 : decode cX12_readNew 38 = .ok (.invokevirtual 169, 3) := by decide +kernel
theorem dX12_readNew_41 : decode cX12_readNew 41 = .ok (.iconst 1, 1) := by decide +kernel
theorem dX12_readNew_42 : decode cX12_readNew 42 = .ok (.ireturn, 1) := by decide +kernel
theorem dX12_readThing_0 : decode cX12_readThing 0 = .ok (.aload_n 0, 1) := by decide +kernel
theorem dX12_readThing_1 : decode cX12_readThing 1 = .ok (.getfield 16, 3) := by decide +kernel
theorem dX12_readThing_4 : decode cX12_readThing 4 = .ok (.iconst 1, 1) := by decide +kernel
theorem dX12_readThing_5 : decode cX12_readThing 5 = .ok (.iaload, 1) := by decide +kernel
theorem dX12_readThing_6 : decode cX12_readThing 6 = .ok (.istore_n 1, 1) := by decide +kernel
theorem dX12_readThing_7 : decode cX12_readThing 7 = .ok (.iload_n 1, 1) := by decide +kernel
theorem dX12_readThing_8 : decode cX12_readThing 8 = .ok (.bipush 16, 2) := by decide +kernel
theorem dX12_readThing_10 : decode cX12_readThing 10 = .ok (.if_icmp .ne 9, 3) := by decide +kernel
theorem dX12_readThing_13 : decode cX12_readThing 13 = .ok (.aload_n 0, 1) := by decide +kernel
theorem dX12_readThing_14 : decode cX12_readThing 14 = .ok (.iconst 4, 1) := by decide +kernel
theorem dX12_readThing_15 : decode cX12_readThing 15 = .ok (.invokevirtual 159, 3) := by decide +kernel
theorem dX12_readThing_18 : decode cX12_readThing 18 = .ok (.ireturn, 1) := by decide +kernel
theorem dX12_readThing_19 : decode cX12_readThing 19 = .ok (.aload_n 0, 1) := by decide +kernel
theorem dX12_readThing_20 : decode cX12_readThing 20 = .ok (.invokevirtual 169, 3) := by decide +kernel
theorem dX12_readThing_23 : decode cX12_readThing 23 = .ok (.aload_n 0, 1) := by decide +kernel
theorem dX12_readThing_24 : decode cX12_readThing 24 = .ok (.bipush 8, 2) := by decide +kernel
theorem dX12_readThing_26 : decode cX12_readThing 26 = .ok (.iload_n 1, 1) := by decide +kernel
theorem dX12_readThing_27 : decode cX12_readThing 27 = .ok (.iadd, 1) := by decide +kernel
theorem dX12_readThing_28 : decode cX12_readThing 28 = .ok (.invokevirtual 194, 3) := by decide +kernel
theorem dX12_readThing_31 : decode cX12_readThing 31 = .ok (.ifCond .ne 5, 3) := by decide +kernel
theorem dX12_readThing_34 : decode cX12_readThing 34 = .ok (.iconst 0, 1) := by decide +kernel
theorem dX12_readThing_35 : decode cX12_readThing 35 = .ok (.ireturn, 1) := by decide +kernel
theorem dX12_readThing_36 : decode cX12_readThing 36 = .ok (.aload_n 0, 1) := by decide +kernel
theorem dX12_readThing_37 : decode cX12_readThing 37 = .ok (.invokevirtual 187, 3) := by decide +kernel
theorem dX12_readThing_40 : decode cX12_readThing 40 = .ok (.ifCond .ne 9, 3) := by decide +kernel
theorem dX12_readThing_43 : decode cX12_readThing 43 = .ok (.aload_n 0, 1) := by decide +kernel
theorem dX12_readThing_44 : decode cX12_readThing 44 = .ok (.iconst 1, 1) := by decide +kernel
theorem dX12_readThing_45 : decode cX12_readThing 45 = .ok (.invokevirtual 159, 3) := by decide +kernel
theorem dX12_readThing_48 : decode cX12_readThing 48 = .ok (.ireturn, 1) := by decide +kernel
theorem dX12_readThing_49 : decode cX12_readThing 49 = .ok (.aload_n 0, 1) := by decide +kernel
theorem dX12_readThing_50 : decode cX12_readThing 50 = .ok (.invokevirtual 191, 3) := by decide +kernel
theorem dX12_readThing_53 : decode cX12_readThing 53 = .ok (.istore_n 2, 1) := by decide +kernel
theorem dX12_readThing_54 : decode cX12_readThing 54 = .ok (.iload_n 2, 1) := by decide +kernel
theorem dX12_readThing_55 : decode cX12_readThing 55 = .ok (.iconst (-1), 1) := by decide +kernel
theorem dX12_readThing_56 : decode cX12_readThing 56 = .ok (.if_icmp .eq 9, 3) := by decide +kernel
theorem dX12_readThing_59 : decode cX12_readThing 59 = .ok (.iload_n 2, 1) := by decide +kernel
theorem dX12_readThing_60 : decode cX12_readThing 60 = .ok (.bipush 8, 2) := by decide +kernel
theorem dX12_readThing_62 : decode cX12_readThing 62 = .ok (.if_icmp .lt 9, 3) := by decide +kernel
theorem dX12_readThing_65 : decode cX12_readThing 65 = .ok (.aload_n 0, 1) := by decide +kernel
theorem dX12_readThing_66 : decode cX12_readThing 66 = .ok (.iconst 3, 1) := by decide +kernel
theorem dX12_readThing_67 : decode cX12_readThing 67 = .ok (.invokevirtual 159, 3) := by decide +kernel
theorem dX12_readThing_70 : decode cX12_readThing 70 = .ok (.ireturn, 1) := by decide +kernel
theorem dX12_readThing_71 : decode cX12_readThing 71 = .ok (.aload_n 0, 1) := by decide +kernel
theorem dX12_readThing_72 : decode cX12_readThing 72 = .ok (.invokevirtual 169, 3) := by decide +kernel
theorem dX12_readThing_75 : decode cX12_readThing 75 = .ok (.bipush 20, 2) := by decide +kernel
theorem dX12_readThing_77 : decode cX12_readThing 77 = .ok (.bipush 20, 2) := by decide +kernel
theorem dX12_readThing_79 : decode cX12_readThing 79 = .ok (.iload_n 1, 1) := by decide +kernel
theorem dX12_readThing_80 : decode cX12_readThing 80 = .ok (.imul, 1) := by decide +kernel
theorem dX12_readThing_81 : decode cX12_readThing 81 = .ok (.iadd, 1) := by decide +kernel
theorem dX12_readThing_82 : decode cX12_readThing 82 = .ok (.istore_n 3, 1) := by decide +kernel
theorem dX12_readThing_83 : decode cX12_readThing 83 = .ok (.aload_n 0, 1) := by decide +kernel
theorem dX12_readThing_84 : decode cX12_readThing 84 = .ok (.getfield 16, 3) := by decide +kernel
theorem dX12_readThing_87 : decode cX12_readThing 87 = .ok (.iload_n 3, 1) := by decide +kernel
theorem dX12_readThing_88 : decode cX12_readThing 88 = .ok (.iconst 0, 1) := by decide +kernel
theorem dX12_readThing_89 : decode cX12_readThing 89 = .ok (.iadd, 1) := by decide +kernel
theorem dX12_readThing_90 : decode cX12_readThing 90 = .ok (.iload_n 2, 1) := by decide +kernel
theorem dX12_readThing_91 : decode cX12_readThing 91 = .ok (.iastore, 1) := by decide +kernel
theorem dX12_readThing_92 : decode cX12_readThing 92 = .ok (.iconst 3, 1) := by decide +kernel
theorem dX12_readThing_93 : decode cX12_readThing 93 = .ok (.istore 4, 2) := by decide +kernel
theorem dX12_readThing_95 : decode cX12_readThing 95 = .ok (.iload 4, 2) := by decide +kernel
theorem dX12_readThing_97 : decode cX12_readThing 97 = .ok (.bipush 13, 2) := by decide +kernel
theorem dX12_readThing_99 : decode cX12_readThing 99 = .ok (.if_icmp .gt 19, 3) := by decide +kernel
theorem dX12_readThing_102 : decode cX12_readThing 102 = .ok (.aload_n 0, 1) := by decide +kernel
theorem dX12_readThing_103 : decode cX12_readThing 103 = .ok (.getfield 16, 3) := by decide +kernel
theorem dX12_readThing_106 : decode cX12_readThing 106 = .ok (.iload_n 3, 1) := by decide +kernel
theorem dX12_readThing_107 : decode cX12_readThing 107 = .ok (.iload 4, 2) := by decide +kernel
theorem dX12_readThing_109 : decode cX12_readThing 109 = .ok (.iadd, 1) := by decide +kernel
theorem dX12_readThing_110 : decode cX12_readThing 110 = .ok (.iconst (-1), 1) := by decide +kernel
theorem dX12_readThing_111 : decode cX12_readThing 111 = .ok (.iastore, 1) := by decide +kernel
theorem dX12_readThing_112 : decode cX12_readThing 112 = .ok (.iinc 4 1, 3) := by decide +kernel
theorem dX12_readThing_115 : decode cX12_readThing 115 = .ok (.goto (-20), 3) := by decide +kernel
theorem dX12_readThing_118 : decode cX12_readThing 118 = .ok (.aload_n 0, 1) := by decide +kernel
theorem dX12_readThing_119 : decode cX12_readThing 119 = .ok (.getfield 16, 3) := by decide +kernel
theorem dX12_readThing_122 : decode cX12_readThing 122 = .ok (.iload_n 3, 1) := by decide +kernel
theorem dX12_readThing_123 : decode cX12_readThing 123 = .ok (.iconst 3, 1) := by decide +kernel
theorem dX12_readThing_124 : decode cX12_readThing 124 = .ok (.iadd, 1) := by decide +kernel
theorem dX12_readThing_125 : decode cX12_readThing 125 = .ok (.iconst 0, 1) := by decide +kernel
theorem dX12_readThing_126 : decode cX12_readThing 126 = .ok (.iastore, 1) := by decide +kernel
theorem dX12_readThing_127 : decode cX12_readThing 127 = .ok (.aload_n 0, 1) := by decide +kernel
theorem dX12_readThing_128 : decode cX12_readThing 128 = .ok (.getfield 16, 3) := by decide +kernel
theorem dX12_readThing_131 : decode cX12_readThing 131 = .ok (.iload_n 3, 1) := by decide +kernel
theorem dX12_readThing_132 : decode cX12_readThing 132 = .ok (.iconst 4, 1) := by decide +kernel
theorem dX12_readThing_133 : decode cX12_readThing 133 = .ok (.iadd, 1) := by decide +kernel
theorem dX12_readThing_134 : decode cX12_readThing 134 = .ok (.bipush 100, 2) := by decide +kernel
theorem dX12_readThing_136 : decode cX12_readThing 136 = .ok (.iastore, 1) := by decide +kernel
theorem dX12_readThing_137 : decode cX12_readThing 137 = .ok (.aload_n 0, 1) := by decide +kernel
theorem dX12_readThing_138 : decode cX12_readThing 138 = .ok (.getfield 16, 3) := by decide +kernel
theorem dX12_readThing_141 : decode cX12_readThing 141 = .ok (.iload_n 3, 1) := by decide +kernel
theorem dX12_readThing_142 : decode cX12_readThing 142 = .ok (.iconst 5, 1) := by decide +kernel
theorem dX12_readThing_143 : decode cX12_readThing 143 = .ok (.iadd, 1) := by decide +kernel
theorem dX12_readThing_144 : decode cX12_readThing 144 = .ok (.iconst 5, 1) := by decide +kernel
theorem dX12_readThing_145 : decode cX12_readThing 145 = .ok (.iastore, 1) := by decide +kernel
theorem dX12_readThing_146 : decode cX12_readThing 146 = .ok (.aload_n 0, 1) := by decide +kernel
theorem dX12_readThing_147 : decode cX12_readThing 147 = .ok (.getfield 16, 3) := by decide +kernel
theorem dX12_readThing_150 : decode cX12_readThing 150 = .ok (.iload_n 3, 1) := by decide +kernel
theorem dX12_readThing_151 : decode cX12_readThing 151 = .ok (.bipush 6, 2) := by decide +kernel
theorem dX12_readThing_153 : decode cX12_readThing 153 = .ok (.iadd, 1) := by decide +kernel
theorem dX12_readThing_154 : decode cX12_readThing 154 = .ok (.bipush 50, 2) := by decide +kernel
theorem dX12_readThing_156 : decode cX12_readThing 156 = .ok (.iastore, 1) := by decide +kernel
theorem dX12_readThing_157 : decode cX12_readThing 157 = .ok (.aload_n 0, 1) := by decide +kernel
theorem dX12_readThing_158 : decode cX12_readThing 158 = .ok (.getfield 16, 3) := by decide +kernel
theorem dX12_readThing_161 : decode cX12_readThing 161 = .ok (.iload_n 3, 1) := by decide +kernel
theorem dX12_readThing_162 : decode cX12_readThing 162 = .ok (.bipush 7, 2) := by decide +kernel
theorem dX12_readThing_164 : decode cX12_readThing 164 = .ok (.iadd, 1) := by decide +kernel
theorem dX12_readThing_165 : decode cX12_readThing 165 = .ok (.iconst 1, 1) := by decide +kernel
theorem dX12_readThing_166 : decode cX12_readThing 166 = .ok (.iastore, 1) := by decide +kernel
theorem dX12_readThing_167 : decode cX12_readThing 167 = .ok (.aload_n 0, 1) := by decide +kernel
theorem dX12_readThing_168 : decode cX12_readThing 168 = .ok (.getfield 26, 3) := by decide +kernel
theorem dX12_readThing_171 : decode cX12_readThing 171 = .ok (.iload_n 1, 1) := by decide +kernel
theorem dX12_readThing_172 : decode cX12_readThing 172 = .ok (.lconst 0, 1) := by decide +kernel
theorem dX12_readThing_173 : decode cX12_readThing 173 = .ok (.lastore, 1) := by decide +kernel
theorem dX12_readThing_174 : decode cX12_readThing 174 = .ok (.aload_n 0, 1) := by decide +kernel
theorem dX12_readThing_175 : decode cX12_readThing 175 = .ok (.iconst 0, 1) := by decide +kernel
theorem dX12_readThing_176 : decode cX12_readThing 176 = .ok (.sipush 3599, 3) := by decide +kernel
theorem dX12_readThing_179 : decode cX12_readThing 179 = .ok (.invokevirtual 197, 3) := by decide +kernel
theorem dX12_readThing_182 : decode cX12_readThing 182 = .ok (.ifCond .ne 5, 3) := by decide +kernel
theorem dX12_readThing_185 : decode cX12_readThing 185 = .ok (.iconst 0, 1) := by decide +kernel
theorem dX12_readThing_186 : decode cX12_readThing 186 = .ok (.ireturn, 1) := by decide +kernel
theorem dX12_readThing_187 : decode cX12_readThing 187 = .ok (.aload_n 0, 1) := by decide +kernel
theorem dX12_readThing_188 : decode cX12_readThing 188 = .ok (.getfield 16, 3) := by decide +kernel
theorem dX12_readThing_191 : decode cX12_readThing 191 = .ok (.iload_n 3, 1) := by decide +kernel
theorem dX12_readThing_192 : decode cX12_readThing 192 = .ok (.iconst 1, 1) := by decide +kernel
theorem dX12_readThing_193 : decode cX12_readThing 193 = .ok (.iadd, 1) := by decide +kernel
theorem dX12_readThing_194 : decode cX12_readThing 194 = .ok (.aload_n 0, 1) := by decide +kernel
theorem dX12_readThing_195 : decode cX12_readThing 195 = .ok (.getfield 166, 3) := by decide +kernel
theorem dX12_readThing_198 : decode cX12_readThing 198 = .ok (.iastore, 1) := by decide +kernel
theorem dX12_readThing_199 : decode cX12_readThing 199 = .ok (.aload_n 0, 1) := by decide +kernel
theorem dX12_readThing_200 : decode cX12_readThing 200 = .ok (.iconst 0, 1) := by decide +kernel
theorem dX12_readThing_201 : decode cX12_readThing 201 = .ok (.sipush 3599, 3) := by decide +kernel
theorem dX12_readThing_204 : decode cX12_readThing 204 = .ok (.invokevirtual 197, 3) := by decide +kernel
theorem dX12_readThing_207 : decode cX12_readThing 207 = .ok (.ifCond .ne 5, 3) := by decide +kernel
theorem dX12_readThing_210 : decode cX12_readThing 210 = .ok (.iconst 0, 1) := by decide +kernel
theorem dX12_readThing_211 : decode cX12_readThing 211 = .ok (.ireturn, 1) := by decide +kernel
theorem dX12_readThing_212 : decode cX12_readThing 212 = .ok (.aload_n 0, 1) := by decide +kernel
theorem dX12_readThing_213 : decode cX12_readThing 213 = .ok (.getfield 16, 3) := by decide +kernel
theorem dX12_readThing_216 : decode cX12_readThing 216 = .ok (.iload_n 3, 1) := by decide +kernel
theorem dX12_readThing_217 : decode cX12_readThing 217 = .ok (.iconst 2, 1) := by decide +kernel
theorem dX12_readThing_218 : decode cX12_readThing 218 = .ok (.iadd, 1) := by decide +kernel
theorem dX12_readThing_219 : decode cX12_readThing 219 = .ok (.aload_n 0, 1) := by decide +kernel
theorem dX12_readThing_220 : decode cX12_readThing 220 = .ok (.getfield 166, 3) := by decide +kernel
theorem dX12_readThing_223 : decode cX12_readThing 223 = .ok (.iastore, 1) := by decide +kernel
theorem dX12_readThing_224 : decode cX12_readThing 224 = .ok (.iconst 0, 1) := by decide +kernel
theorem dX12_readThing_225 : decode cX12_readThing 225 = .ok (.istore 4, 2) := by decide +kernel
theorem dX12_readThing_227 : decode cX12_readThing 227 = .ok (.aload_n 0, 1) := by decide +kernel
theorem dX12_readThing_228 : decode cX12_readThing 228 = .ok (.getfield 116, 3) := by decide +kernel
theorem dX12_readThing_231 : decode cX12_readThing 231 = .ok (.iconst 2, 1) := by decide +kernel
theorem dX12_readThing_232 : decode cX12_readThing 232 = .ok (.if_icmp .ne 94, 3) := by decide +kernel
theorem dX12_readThing_235 : decode cX12_readThing 235 = .ok (.bipush 7, 2) := by decide +kernel
theorem dX12_readThing_237 : decode cX12_readThing 237 = .ok (.istore 5, 2) := by decide +kernel
theorem dX12_readThing_239 : decode cX12_readThing 239 = .ok (.iload 5, 2) := by decide +kernel
theorem dX12_readThing_241 : decode cX12_readThing 241 = .ok (.bipush 13, 2) := by decide +kernel
theorem dX12_readThing_243 : decode cX12_readThing 243 = .ok (.if_icmp .gt 18, 3) := by decide +kernel
theorem dX12_readThing_246 : decode cX12_readThing 246 = .ok (.aload_n 0, 1) := by decide +kernel
theorem dX12_readThing_247 : decode cX12_readThing 247 = .ok (.iload 5, 2) := by decide +kernel
theorem dX12_readThing_249 : decode cX12_readThing 249 = .ok (.invokevirtual 201, 3) := by decide +kernel
theorem dX12_readThing_252 : decode cX12_readThing 252 = .ok (.ifCond .ne 9, 3) := by decide +kernel
theorem dX12_readThing_255 : decode cX12_readThing 255 = .ok (.iinc 5 1, 3) := by decide +kernel
theorem dX12_readThing_258 : decode cX12_readThing 258 = .ok (.goto (-19), 3) := by decide +kernel
theorem dX12_readThing_261 : decode cX12_readThing 261 = .ok (.iload 5, 2) := by decide +kernel
theorem dX12_readThing_263 : decode cX12_readThing 263 = .ok (.bipush 13, 2) := by decide +kernel
theorem dX12_readThing_265 : decode cX12_readThing 265 = .ok (.if_icmp .le 9, 3) := by decide +kernel
theorem dX12_readThing_268 : decode cX12_readThing 268 = .ok (.aload_n 0, 1) := by decide +kernel
theorem dX12_readThing_269 : decode cX12_readThing 269 = .ok (.iconst 1, 1) := by decide +kernel
theorem dX12_readThing_270 : decode cX12_readThing 270 = .ok (.invokevirtual 159, 3) := by decide +kernel
theorem dX12_readThing_273 : decode cX12_readThing 273 = .ok (.ireturn, 1) := by decide +kernel
theorem dX12_readThing_274 : decode cX12_readThing 274 = .ok (.iload 5, 2) := by decide +kernel
theorem dX12_readThing_276 : decode cX12_readThing 276 = .ok (.bipush 8, 2) := by decide +kernel
theorem dX12_readThing_278 : decode cX12_readThing 278 = .ok (.if_icmp .le 19, 3) := by decide +kernel
theorem dX12_readThing_281 : decode cX12_readThing 281 = .ok (.iload 4, 2) := by decide +kernel
theorem dX12_readThing_283 : decode cX12_readThing 283 = .ok (.iload 5, 2) := by decide +kernel
theorem dX12_readThing_285 : decode cX12_readThing 285 = .ok (.invokestatic 204, 3) := by decide +kernel
theorem dX12_readThing_288 : decode cX12_readThing 288 = .ok (.ifCond .eq 9, 3) := by decide +kernel
theorem dX12_readThing_291 : decode cX12_readThing 291 = .ok (.aload_n 0, 1) := by decide +kernel
theorem dX12_readThing_292 : decode cX12_readThing 292 = .ok (.iconst 3, 1) := by decide +kernel
theorem dX12_readThing_293 : decode cX12_readThing 293 = .ok (.invokevirtual 159, 3) := by decide +kernel
theorem dX12_readThing_296 : decode cX12_readThing 296 = .ok (.ireturn, 1) := by decide +kernel
theorem dX12_readThing_297 : decode cX12_readThing 297 = .ok (.iload 4, 2) := by decide +kernel
theorem dX12_readThing_299 : decode cX12_readThing 299 = .ok (.iconst 1, 1) := by decide +kernel
theorem dX12_readThing_300 : decode cX12_readThing 300 = .ok (.iload 5, 2) := by decide +kernel
theorem dX12_readThing_302 : decode cX12_readThing 302 = .ok (.ishl, 1) := by decide +kernel
theorem dX12_readThing_303 : decode cX12_readThing 303 = .ok (.ior, 1) := by decide +kernel
theorem dX12_readThing_304 : decode cX12_readThing 304 = .ok (.istore 4, 2) := by decide +kernel
theorem dX12_readThing_306 : decode cX12_readThing 306 = .ok (.aload_n 0, 1) := by decide +kernel
theorem dX12_readThing_307 : decode cX12_readThing 307 = .ok (.invokevirtual 169, 3) := by decide +kernel
theorem dX12_readThing_310 : decode cX12_readThing 310 = .ok (.aload_n 0, 1) := by decide +kernel
theorem dX12_readThing_311 : decode cX12_readThing 311 = .ok (.iload_n 3, 1) := by decide +kernel
theorem dX12_readThing_312 : decode cX12_readThing 312 = .ok (.iload_n 1, 1) := by decide +kernel
theorem dX12_readThing_313 : decode cX12_readThing 313 = .ok (.iload 5, 2) := by decide +kernel
theorem dX12_readThing_315 : decode cX12_readThing 315 = .ok (.invokevirtual 207, 3) := by decide +kernel
theorem dX12_readThing_318 : decode cX12_readThing 318 = .ok (.ifCond .ne 5, 3) := by decide +kernel
theorem dX12_readThing_321 : decode cX12_readThing 321 = .ok (.iconst 0, 1) := by decide +kernel
theorem dX12_readThing_322 : decode cX12_readThing 322 = .ok (.ireturn, 1) := by decide +kernel
theorem dX12_readThing_323 : decode cX12_readThing 323 = .ok (.goto (-96), 3) := by decide +kernel
theorem dX12_readThing_326 : decode cX12_readThing 326 = .ok (.aload_n 0, 1) := by decide +kernel
theorem dX12_readThing_327 : decode cX12_readThing 327 = .ok (.getfield 16, 3) := by decide +kernel
theorem dX12_readThing_330 : decode cX12_readThing 330 = .ok (.iconst 1, 1) := by decide +kernel
theorem dX12_readThing_331 : decode cX12_readThing 331 = .ok (.dup2, 1) := by decide +kernel
theorem dX12_readThing_332 : decode cX12_readThing 332 = .ok (.iaload, 1) := by decide +kernel
theorem dX12_readThing_333 : decode cX12_readThing 333 = .ok (.iconst 1, 1) := by decide +kernel
theorem dX12_readThing_334 : decode cX12_readThing 334 = .ok (.iadd, 1) := by decide +kernel
theorem dX12_readThing_335 : decode cX12_readThing 335 = .ok (.iastore, 1) := by decide +kernel
theorem dX12_readThing_336 : decode cX12_readThing 336 = .ok (.iconst 1, 1) := by decide +kernel
theorem dX12_readThing_337 : decode cX12_readThing 337 = .ok (.ireturn, 1) := by decide +kernel
theorem dX12_readPart_0 : decode cX12_readPart 0 = .ok (.iload_n 3, 1) := by decide +kernel
theorem dX12_readPart_1 : decode cX12_readPart 1 = .ok (.bipush 7, 2) := by decide +kernel
theorem dX12_readPart_3 : decode cX12_readPart 3 = .ok (.if_icmp .ne 68, 3) := by decide +kernel
theorem dX12_readPart_6 : decode cX12_readPart 6 = .ok (.aload_n 0, 1) := by decide +kernel
theorem dX12_readPart_7 : decode cX12_readPart 7 = .ok (.iconst 0, 1) := by decide +kernel
theorem dX12_readPart_8 : decode cX12_readPart 8 = .ok (.bipush 39, 2) := by decide +kernel
theorem dX12_readPart_10 : decode cX12_readPart 10 = .ok (.invokevirtual 197, 3) := by decide +kernel
theorem dX12_readPart_13 : decode cX12_readPart 13 = .ok (.ifCond .ne 5, 3) := by decide +kernel
theorem dX12_readPart_16 : decode cX12_readPart 16 = .ok (.iconst 0, 1) := by decide +kernel
theorem dX12_readPart_17 : decode cX12_readPart 17 = .ok (.ireturn, 1) := by decide +kernel
theorem dX12_readPart_18 : decode cX12_readPart 18 = .ok (.aload_n 0, 1) := by decide +kernel
theorem dX12_readPart_19 : decode cX12_readPart 19 = .ok (.getfield 166, 3) := by decide +kernel
theorem dX12_readPart_22 : decode cX12_readPart 22 = .ok (.istore 4, 2) := by decide +kernel
theorem dX12_readPart_24 : decode cX12_readPart 24 = .ok (.aload_n 0, 1) := by decide +kernel
theorem dX12_readPart_25 : decode cX12_readPart 25 = .ok (.iload 4, 2) := by decide +kernel
theorem dX12_readPart_27 : decode cX12_readPart 27 = .ok (.bipush 39, 2) := by decide +kernel
theorem dX12_readPart_29 : decode cX12_readPart 29 = .ok (.invokevirtual 197, 3) := by decide +kernel
theorem dX12_readPart_32 : decode cX12_readPart 32 = .ok (.ifCond .ne 5, 3) := by decide +kernel
theorem dX12_readPart_35 : decode cX12_readPart 35 = .ok (.iconst 0, 1) := by decide +kernel
theorem dX12_readPart_36 : decode cX12_readPart 36 = .ok (.ireturn, 1) := by decide +kernel
theorem dX12_readPart_37 : decode cX12_readPart 37 = .ok (.iload 4, 2) := by decide +kernel
theorem dX12_readPart_39 : decode cX12_readPart 39 = .ok (.istore 5, 2) := by decide +kernel
theorem dX12_readPart_41 : decode cX12_readPart 41 = .ok (.iload 5, 2) := by decide +kernel
theorem dX12_readPart_43 : decode cX12_readPart 43 = .ok (.aload_n 0, 1) := by decide +kernel
theorem dX12_readPart_44 : decode cX12_readPart 44 = .ok (.getfield 166, 3) := by decide +kernel
theorem dX12_readPart_47 : decode cX12_readPart 47 = .ok (.if_icmp .gt 22, 3) := by decide +kernel
theorem dX12_readPart_50 : decode cX12_readPart 50 = .ok (.aload_n 0, 1) := by decide +kernel
theorem dX12_readPart_51 : decode cX12_readPart 51 = .ok (.getfield 26, 3) := by decide +kernel
theorem dX12_readPart_54 : decode cX12_readPart 54 = .ok (.iload_n 2, 1) := by decide +kernel
theorem dX12_readPart_55 : decode cX12_readPart 55 = .ok (.dup2, 1) := by decide +kernel
theorem dX12_readPart_56 : decode cX12_readPart 56 = .ok (.laload, 1) := by decide +kernel
theorem dX12_readPart_57 : decode cX12_readPart 57 = .ok (.lconst 1, 1) := by decide +kernel
theorem dX12_readPart_58 : decode cX12_readPart 58 = .ok (.iload 5, 2) := by decide +kernel
theorem dX12_readPart_60 : decode cX12_readPart 60 = .ok (.lshl, 1) := by decide +kernel
theorem dX12_readPart_61 : decode cX12_readPart 61 = .ok (.lor, 1) := by decide +kernel
theorem dX12_readPart_62 : decode cX12_readPart 62 = .ok (.lastore, 1) := by decide +kernel
theorem dX12_readPart_63 : decode cX12_readPart 63 = .ok (.iinc 5 1, 3) := by decide +kernel
theorem dX12_readPart_66 : decode cX12_readPart 66 = .ok (.goto (-25), 3) := by decide +kernel
theorem dX12_readPart_69 : decode cX12_readPart 69 = .ok (.iconst 1, 1) := by decide +kernel
theorem dX12_readPart_70 : decode cX12_readPart 70 = .ok (.ireturn, 1) := by decide +kernel
theorem dX12_readPart_71 : decode cX12_readPart 71 = .ok (.iload_n 3, 1) := by decide +kernel
theorem dX12_readPart_72 : decode cX12_readPart 72 = .ok (.bipush 8, 2) := by decide +kernel
theorem dX12_readPart_74 : decode cX12_readPart 74 = .ok (.if_icmp .ne 33, 3) := by decide +kernel
theorem dX12_readPart_77 : decode cX12_readPart 77 = .ok (.aload_n 0, 1) := by decide +kernel
theorem dX12_readPart_78 : decode cX12_readPart 78 = .ok (.iconst 0, 1) := by decide +kernel
theorem dX12_readPart_79 : decode cX12_readPart 79 = .ok (.iconst 3, 1) := by decide +kernel
theorem dX12_readPart_80 : decode cX12_readPart 80 = .ok (.invokevirtual 197, 3) := by decide +kernel
theorem dX12_readPart_83 : decode cX12_readPart 83 = .ok (.ifCond .ne 5, 3) := by decide +kernel
theorem dX12_readPart_86 : decode cX12_readPart 86 = .ok (.iconst 0, 1) := by decide +kernel
theorem dX12_readPart_87 : decode cX12_readPart 87 = .ok (.ireturn, 1) := by decide +kernel
theorem dX12_readPart_88 : decode cX12_readPart 88 = .ok (.aload_n 0, 1) := by decide +kernel
theorem dX12_readPart_89 : decode cX12_readPart 89 = .ok (.getfield 16, 3) := by decide +kernel
theorem dX12_readPart_92 : decode cX12_readPart 92 = .ok (.iload_n 1, 1) := by decide +kernel
theorem dX12_readPart_93 : decode cX12_readPart 93 = .ok (.iconst 3, 1) := by decide +kernel
theorem dX12_readPart_94 : decode cX12_readPart 94 = .ok (.iadd, 1) := by decide +kernel
theorem dX12_readPart_95 : decode cX12_readPart 95 = .ok (.dup2, 1) := by decide +kernel
theorem dX12_readPart_96 : decode cX12_readPart 96 = .ok (.iaload, 1) := by decide +kernel
theorem dX12_readPart_97 : decode cX12_readPart 97 = .ok (.iconst 1, 1) := by decide +kernel
theorem dX12_readPart_98 : decode cX12_readPart 98 = .ok (.aload_n 0, 1) := by decide +kernel
theorem dX12_readPart_99 : decode cX12_readPart 99 = .ok (.getfield 166, 3) := by decide +kernel
theorem dX12_readPart_102 : decode cX12_readPart 102 = .ok (.ishl, 1) := by decide +kernel
theorem dX12_readPart_103 : decode cX12_readPart 103 = .ok (.ior, 1) := by decide +kernel
theorem dX12_readPart_104 : decode cX12_readPart 104 = .ok (.iastore, 1) := by decide +kernel
theorem dX12_readPart_105 : decode cX12_readPart 105 = .ok (.iconst 1, 1) := by decide +kernel
theorem dX12_readPart_106 : decode cX12_readPart 106 = .ok (.ireturn, 1) := by decide +kernel
theorem dX12_readPart_107 : decode cX12_readPart 107 = .ok (.iload_n 3, 1) := by decide +kernel
theorem dX12_readPart_108 : decode cX12_readPart 108 = .ok (.bipush 13, 2) := by decide +kernel
theorem dX12_readPart_110 : decode cX12_readPart 110 = .ok (.if_icmp .ne 57, 3) := by decide +kernel
theorem dX12_readPart_113 : decode cX12_readPart 113 = .ok (.aload_n 0, 1) := by decide +kernel
theorem dX12_readPart_114 : decode cX12_readPart 114 = .ok (.iconst 0, 1) := by decide +kernel
theorem dX12_readPart_115 : decode cX12_readPart 115 = .ok (.sipush 300, 3) := by decide +kernel
theorem dX12_readPart_118 : decode cX12_readPart 118 = .ok (.invokevirtual 197, 3) := by decide +kernel
theorem dX12_readPart_121 : decode cX12_readPart 121 = .ok (.ifCond .ne 5, 3) := by decide +kernel
theorem dX12_readPart_124 : decode cX12_readPart 124 = .ok (.iconst 0, 1) := by decide +kernel
theorem dX12_readPart_125 : decode cX12_readPart 125 = .ok (.ireturn, 1) := by decide +kernel
theorem dX12_readPart_126 : decode cX12_readPart 126 = .ok (.aload_n 0, 1) := by decide +kernel
theorem dX12_readPart_127 : decode cX12_readPart 127 = .ok (.getfield 16, 3) := by decide +kernel
theorem dX12_readPart_130 : decode cX12_readPart 130 = .ok (.iload_n 1, 1) := by decide +kernel
theorem dX12_readPart_131 : decode cX12_readPart 131 = .ok (.bipush 8, 2) := by decide +kernel
theorem dX12_readPart_133 : decode cX12_readPart 133 = .ok (.iadd, 1) := by decide +kernel
theorem dX12_readPart_134 : decode cX12_readPart 134 = .ok (.aload_n 0, 1) := by decide +kernel
theorem dX12_readPart_135 : decode cX12_readPart 135 = .ok (.getfield 166, 3) := by decide +kernel
theorem dX12_readPart_138 : decode cX12_readPart 138 = .ok (.iastore, 1) := by decide +kernel
theorem dX12_readPart_139 : decode cX12_readPart 139 = .ok (.aload_n 0, 1) := by decide +kernel
theorem dX12_readPart_140 : decode cX12_readPart 140 = .ok (.iconst 4, 1) := by decide +kernel
theorem dX12_readPart_141 : decode cX12_readPart 141 = .ok (.sipush 999, 3) := by decide +kernel
theorem dX12_readPart_144 : decode cX12_readPart 144 = .ok (.invokevirtual 197, 3) := by decide +kernel
theorem dX12_readPart_147 : decode cX12_readPart 147 = .ok (.ifCond .ne 5, 3) := by decide +kernel
theorem dX12_readPart_150 : decode cX12_readPart 150 = .ok (.iconst 0, 1) := by decide +kernel
theorem dX12_readPart_151 : decode cX12_readPart 151 = .ok (.ireturn, 1) := by decide +kernel
theorem dX12_readPart_152 : decode cX12_readPart 152 = .ok (.aload_n 0, 1) := by decide +kernel
theorem dX12_readPart_153 : decode cX12_readPart 153 = .ok (.getfield 16, 3) := by decide +kernel
theorem dX12_readPart_156 : decode cX12_readPart 156 = .ok (.iload_n 1, 1) := by decide +kernel
theorem dX12_readPart_157 : decode cX12_readPart 157 = .ok (.bipush 9, 2) := by decide +kernel
theorem dX12_readPart_159 : decode cX12_readPart 159 = .ok (.iadd, 1) := by decide +kernel
theorem dX12_readPart_160 : decode cX12_readPart 160 = .ok (.aload_n 0, 1) := by decide +kernel
theorem dX12_readPart_161 : decode cX12_readPart 161 = .ok (.getfield 166, 3) := by decide +kernel
theorem dX12_readPart_164 : decode cX12_readPart 164 = .ok (.iastore, 1) := by decide +kernel
theorem dX12_readPart_165 : decode cX12_readPart 165 = .ok (.iconst 1, 1) := by decide +kernel
theorem dX12_readPart_166 : decode cX12_readPart 166 = .ok (.ireturn, 1) := by decide +kernel
theorem dX12_readPart_167 : decode cX12_readPart 167 = .ok (.iload_n 3, 1) := by decide +kernel
theorem dX12_readPart_168 : decode cX12_readPart 168 = .ok (.bipush 9, 2) := by decide +kernel
theorem dX12_readPart_170 : decode cX12_readPart 170 = .ok (.if_icmp .ne 17, 3) := by decide +kernel
theorem dX12_readPart_173 : decode cX12_readPart 173 = .ok (.aload_n 0, 1) := by decide +kernel
theorem dX12_readPart_174 : decode cX12_readPart 174 = .ok (.iconst 1, 1) := by decide +kernel
theorem dX12_readPart_175 : decode cX12_readPart 175 = .ok (.sipush 999, 3) := by decide +kernel
theorem dX12_readPart_178 : decode cX12_readPart 178 = .ok (.invokevirtual 197, 3) := by decide +kernel
theorem dX12_readPart_181 : decode cX12_readPart 181 = .ok (.ifCond .eq 36, 3) := by decide +kernel
theorem dX12_readPart_184 : decode cX12_readPart 184 = .ok (.goto 35, 3) := by decide +kernel
theorem dX12_readPart_187 : decode cX12_readPart 187 = .ok (.iload_n 3, 1) := by decide +kernel
theorem dX12_readPart_188 : decode cX12_readPart 188 = .ok (.bipush 10, 2) := by decide +kernel
theorem dX12_readPart_190 : decode cX12_readPart 190 = .ok (.if_icmp .ne 16, 3) := by decide +kernel
theorem dX12_readPart_193 : decode cX12_readPart 193 = .ok (.aload_n 0, 1) := by decide +kernel
theorem dX12_readPart_194 : decode cX12_readPart 194 = .ok (.iconst 1, 1) := by decide +kernel
theorem dX12_readPart_195 : decode cX12_readPart 195 = .ok (.bipush 99, 2) := by decide +kernel
theorem dX12_readPart_197 : decode cX12_readPart 197 = .ok (.invokevirtual 197, 3) := by decide +kernel
theorem dX12_readPart_200 : decode cX12_readPart 200 = .ok (.ifCond .eq 17, 3) := by decide +kernel
theorem dX12_readPart_203 : decode cX12_readPart 203 = .ok (.goto 16, 3) := by decide +kernel
theorem dX12_readPart_206 : decode cX12_readPart 206 = .ok (.aload_n 0, 1) := by decide +kernel
theorem dX12_readPart_207 : decode cX12_readPart 207 = .ok (.iconst 0, 1) := by decide +kernel
theorem dX12_readPart_208 : decode cX12_readPart 208 = .ok (.sipush 9999, 3) := by decide +kernel
theorem dX12_readPart_211 : decode cX12_readPart 211 = .ok (.invokevirtual 197, 3) := by decide +kernel
theorem dX12_readPart_214 : decode cX12_readPart 214 = .ok (.ifCond .ne 5, 3) := by decide +kernel
theorem dX12_readPart_217 : decode cX12_readPart 217 = .ok (.iconst 0, 1) := by decide +kernel
theorem dX12_readPart_218 : decode cX12_readPart 218 = .ok (.ireturn, 1) := by decide +kernel
theorem dX12_readPart_219 : decode cX12_readPart 219 = .ok (.aload_n 0, 1) := by decide +kernel
theorem dX12_readPart_220 : decode cX12_readPart 220 = .ok (.getfield 16, 3) := by decide +kernel
theorem dX12_readPart_223 : decode cX12_readPart 223 = .ok (.iload_n 1, 1) := by decide +kernel
theorem dX12_readPart_224 : decode cX12_readPart 224 = .ok (.iload_n 3, 1) := by decide +kernel
theorem dX12_readPart_225 : decode cX12_readPart 225 = .ok (.bipush 9, 2) := by decide +kernel
theorem dX12_readPart_227 : decode cX12_readPart 227 = .ok (.if_icmp .ne 7, 3) := by decide +kernel
theorem dX12_readPart_230 : decode cX12_readPart 230 = .ok (.iconst 4, 1) := by decide +kernel
theorem dX12_readPart_231 : decode cX12_readPart 231 = .ok (.goto 26, 3) := by decide +kernel
theorem dX12_readPart_234 : decode cX12_readPart 234 = .ok (.iload_n 3, 1) := by decide +kernel
theorem dX12_readPart_235 : decode cX12_readPart 235 = .ok (.bipush 10, 2) := by decide +kernel
theorem dX12_readPart_237 : decode cX12_readPart 237 = .ok (.if_icmp .ne 7, 3) := by decide +kernel
theorem dX12_readPart_240 : decode cX12_readPart 240 = .ok (.iconst 5, 1) := by decide +kernel
theorem dX12_readPart_241 : decode cX12_readPart 241 = .ok (.goto 16, 3) := by decide +kernel
theorem dX12_readPart_244 : decode cX12_readPart 244 = .ok (.iload_n 3, 1) := by decide +kernel
theorem dX12_readPart_245 : decode cX12_readPart 245 = .ok (.bipush 11, 2) := by decide +kernel
theorem dX12_readPart_247 : decode cX12_readPart 247 = .ok (.if_icmp .ne 8, 3) := by decide +kernel
theorem dX12_readPart_250 : decode cX12_readPart 250 = .ok (.bipush 6, 2) := by decide +kernel
theorem dX12_readPart_252 : decode cX12_readPart 252 = .ok (.goto 5, 3) := by decide +kernel
theorem dX12_readPart_255 : decode cX12_readPart 255 = .ok (.bipush 7, 2) := by decide +kernel
theorem dX12_readPart_257 : decode cX12_readPart 257 = .ok (.iadd, 1) := by decide +kernel
theorem dX12_readPart_258 : decode cX12_readPart 258 = .ok (.aload_n 0, 1) := by decide +kernel
theorem dX12_readPart_259 : decode cX12_readPart 259 = .ok (.getfield 166, 3) := by decide +kernel
theorem dX12_readPart_262 : decode cX12_readPart 262 = .ok (.iastore, 1) := by decide +kernel
theorem dX12_readPart_263 : decode cX12_readPart 263 = .ok (.iconst 1, 1) := by decide +kernel
theorem dX12_readPart_264 : decode cX12_readPart 264 = .ok (.ireturn, 1) := by decide +kernel
theorem dX12_readPlace_0 : decode cX12_readPlace 0 = .ok (.aload_n 0, 1) := by decide +kernel
theorem dX12_readPlace_1 : decode cX12_readPlace 1 = .ok (.getfield 16, 3) := by decide +kernel
theorem dX12_readPlace_4 : decode cX12_readPlace 4 = .ok (.iconst 2, 1) := by decide +kernel
theorem dX12_readPlace_5 : decode cX12_readPlace 5 = .ok (.iaload, 1) := by decide +kernel
theorem dX12_readPlace_6 : decode cX12_readPlace 6 = .ok (.istore_n 1, 1) := by decide +kernel
theorem dX12_readPlace_7 : decode cX12_readPlace 7 = .ok (.iload_n 1, 1) := by decide +kernel
theorem dX12_readPlace_8 : decode cX12_readPlace 8 = .ok (.bipush 6, 2) := by decide +kernel
theorem dX12_readPlace_10 : decode cX12_readPlace 10 = .ok (.if_icmp .ne 9, 3) := by decide +kernel
theorem dX12_readPlace_13 : decode cX12_readPlace 13 = .ok (.aload_n 0, 1) := by decide +kernel
theorem dX12_readPlace_14 : decode cX12_readPlace 14 = .ok (.iconst 4, 1) := by decide +kernel
theorem dX12_readPlace_15 : decode cX12_readPlace 15 = .ok (.invokevirtual 159, 3) := by decide +kernel
theorem dX12_readPlace_18 : decode cX12_readPlace 18 = .ok (.ireturn, 1) := by decide +kernel
theorem dX12_readPlace_19 : decode cX12_readPlace 19 = .ok (.aload_n 0, 1) := by decide +kernel
theorem dX12_readPlace_20 : decode cX12_readPlace 20 = .ok (.invokevirtual 169, 3) := by decide +kernel
theorem dX12_readPlace_23 : decode cX12_readPlace 23 = .ok (.aload_n 0, 1) := by decide +kernel
theorem dX12_readPlace_24 : decode cX12_readPlace 24 = .ok (.getfield 116, 3) := by decide +kernel
theorem dX12_readPlace_27 : decode cX12_readPlace 27 = .ok (.iconst 3, 1) := by decide +kernel
theorem dX12_readPlace_28 : decode cX12_readPlace 28 = .ok (.if_icmp .eq 9, 3) := by decide +kernel
theorem dX12_readPlace_31 : decode cX12_readPlace 31 = .ok (.aload_n 0, 1) := by decide +kernel
theorem dX12_readPlace_32 : decode cX12_readPlace 32 = .ok (.iconst 1, 1) := by decide +kernel
theorem dX12_readPlace_33 : decode cX12_readPlace 33 = .ok (.invokevirtual 159, 3) := by decide +kernel
theorem dX12_readPlace_36 : decode cX12_readPlace 36 = .ok (.ireturn, 1) := by decide +kernel
theorem dX12_readPlace_37 : decode cX12_readPlace 37 = .ok (.aload_n 0, 1) := by decide +kernel
theorem dX12_readPlace_38 : decode cX12_readPlace 38 = .ok (.getfield 130, 3) := by decide +kernel
theorem dX12_readPlace_41 : decode cX12_readPlace 41 = .ok (.sipush 3600, 3) := by decide +kernel
theorem dX12_readPlace_44 : decode cX12_readPlace 44 = .ok (.if_icmp .lt 9, 3) := by decide +kernel
theorem dX12_readPlace_47 : decode cX12_readPlace 47 = .ok (.aload_n 0, 1) := by decide +kernel
theorem dX12_readPlace_48 : decode cX12_readPlace 48 = .ok (.iconst 2, 1) := by decide +kernel
theorem dX12_readPlace_49 : decode cX12_readPlace 49 = .ok (.invokevirtual 159, 3) := by decide +kernel
theorem dX12_readPlace_52 : decode cX12_readPlace 52 = .ok (.ireturn, 1) := by decide +kernel
theorem dX12_readPlace_53 : decode cX12_readPlace 53 = .ok (.iconst 0, 1) := by decide +kernel
theorem dX12_readPlace_54 : decode cX12_readPlace 54 = .ok (.istore_n 2, 1) := by decide +kernel
theorem dX12_readPlace_55 : decode cX12_readPlace 55 = .ok (.iload_n 2, 1) := by decide +kernel
theorem dX12_readPlace_56 : decode cX12_readPlace 56 = .ok (.iload_n 1, 1) := by decide +kernel
theorem dX12_readPlace_57 : decode cX12_readPlace 57 = .ok (.if_icmp .ge 30, 3) := by decide +kernel
theorem dX12_readPlace_60 : decode cX12_readPlace 60 = .ok (.aload_n 0, 1) := by decide +kernel
theorem dX12_readPlace_61 : decode cX12_readPlace 61 = .ok (.getfield 16, 3) := by decide +kernel
theorem dX12_readPlace_64 : decode cX12_readPlace 64 = .ok (.iconst 5, 1) := by decide +kernel
theorem dX12_readPlace_65 : decode cX12_readPlace 65 = .ok (.iload_n 2, 1) := by decide +kernel
theorem dX12_readPlace_66 : decode cX12_readPlace 66 = .ok (.iadd, 1) := by decide +kernel
theorem dX12_readPlace_67 : decode cX12_readPlace 67 = .ok (.iaload, 1) := by decide +kernel
theorem dX12_readPlace_68 : decode cX12_readPlace 68 = .ok (.aload_n 0, 1) := by decide +kernel
theorem dX12_readPlace_69 : decode cX12_readPlace 69 = .ok (.getfield 130, 3) := by decide +kernel
theorem dX12_readPlace_72 : decode cX12_readPlace 72 = .ok (.if_icmp .ne 9, 3) := by decide +kernel
theorem dX12_readPlace_75 : decode cX12_readPlace 75 = .ok (.aload_n 0, 1) := by decide +kernel
theorem dX12_readPlace_76 : decode cX12_readPlace 76 = .ok (.iconst 3, 1) := by decide +kernel
theorem dX12_readPlace_77 : decode cX12_readPlace 77 = .ok (.invokevirtual 159, 3) := by decide +kernel
theorem dX12_readPlace_80 : decode cX12_readPlace 80 = .ok (.ireturn, 1) := by decide +kernel
theorem dX12_readPlace_81 : decode cX12_readPlace 81 = .ok (.iinc 2 1, 3) := by decide +kernel
theorem dX12_readPlace_84 : decode cX12_readPlace 84 = .ok (.goto (-29), 3) := by decide +kernel
theorem dX12_readPlace_87 : decode cX12_readPlace 87 = .ok (.aload_n 0, 1) := by decide +kernel
theorem dX12_readPlace_88 : decode cX12_readPlace 88 = .ok (.getfield 16, 3) := by decide +kernel
theorem dX12_readPlace_91 : decode cX12_readPlace 91 = .ok (.iconst 5, 1) := by decide +kernel
theorem dX12_readPlace_92 : decode cX12_readPlace 92 = .ok (.iload_n 1, 1) := by decide +kernel
theorem dX12_readPlace_93 : decode cX12_readPlace 93 = .ok (.iadd, 1) := by decide +kernel
theorem dX12_readPlace_94 : decode cX12_readPlace 94 = .ok (.aload_n 0, 1) := by decide +kernel
theorem dX12_readPlace_95 : decode cX12_readPlace 95 = .ok (.getfield 130, 3) := by decide +kernel
theorem dX12_readPlace_98 : decode cX12_readPlace 98 = .ok (.iastore, 1) := by decide +kernel
theorem dX12_readPlace_99 : decode cX12_readPlace 99 = .ok (.aload_n 0, 1) := by decide +kernel
theorem dX12_readPlace_100 : decode cX12_readPlace 100 = .ok (.getfield 16, 3) := by decide +kernel
theorem dX12_readPlace_103 : decode cX12_readPlace 103 = .ok (.iconst 2, 1) := by decide +kernel
theorem dX12_readPlace_104 : decode cX12_readPlace 104 = .ok (.dup2, 1) := by decide +kernel
theorem dX12_readPlace_105 : decode cX12_readPlace 105 = .ok (.iaload, 1) := by decide +kernel
theorem dX12_readPlace_106 : decode cX12_readPlace 106 = .ok (.iconst 1, 1) := by decide +kernel
theorem dX12_readPlace_107 : decode cX12_readPlace 107 = .ok (.iadd, 1) := by decide +kernel
theorem dX12_readPlace_108 : decode cX12_readPlace 108 = .ok (.iastore, 1) := by decide +kernel
theorem dX12_readPlace_109 : decode cX12_readPlace 109 = .ok (.aload_n 0, 1) := by decide +kernel
theorem dX12_readPlace_110 : decode cX12_readPlace 110 = .ok (.invokevirtual 169, 3) := by decide +kernel
theorem dX12_readPlace_113 : decode cX12_readPlace 113 = .ok (.iconst 1, 1) := by decide +kernel
theorem dX12_readPlace_114 : decode cX12_readPlace 114 = .ok (.ireturn, 1) := by decide +kernel
theorem dX12_readOnce_0 : decode cX12_readOnce 0 = .ok (.aload_n 0, 1) := by decide +kernel
theorem dX12_readOnce_1 : decode cX12_readOnce 1 = .ok (.invokevirtual 187, 3) := by decide +kernel
theorem dX12_readOnce_4 : decode cX12_readOnce 4 = .ok (.ifCond .ne 9, 3) := by decide +kernel
theorem dX12_readOnce_7 : decode cX12_readOnce 7 = .ok (.aload_n 0, 1) := by decide +kernel
theorem dX12_readOnce_8 : decode cX12_readOnce 8 = .ok (.iconst 1, 1) := by decide +kernel
theorem dX12_readOnce_9 : decode cX12_readOnce 9 = .ok (.invokevirtual 159, 3) := by decide +kernel
theorem dX12_readOnce_12 : decode cX12_readOnce 12 = .ok (.ireturn, 1) := by decide +kernel
theorem dX12_readOnce_13 : decode cX12_readOnce 13 = .ok (.aload_n 0, 1) := by decide +kernel
theorem dX12_readOnce_14 : decode cX12_readOnce 14 = .ok (.invokevirtual 191, 3) := by decide +kernel
theorem dX12_readOnce_17 : decode cX12_readOnce 17 = .ok (.istore_n 2, 1) := by decide +kernel
theorem dX12_readOnce_18 : decode cX12_readOnce 18 = .ok (.iload_n 2, 1) := by decide +kernel
theorem dX12_readOnce_19 : decode cX12_readOnce 19 = .ok (.bipush 8, 2) := by decide +kernel
theorem dX12_readOnce_21 : decode cX12_readOnce 21 = .ok (.if_icmp .ge 9, 3) := by decide +kernel
theorem dX12_readOnce_24 : decode cX12_readOnce 24 = .ok (.aload_n 0, 1) := by decide +kernel
theorem dX12_readOnce_25 : decode cX12_readOnce 25 = .ok (.iconst 3, 1) := by decide +kernel
theorem dX12_readOnce_26 : decode cX12_readOnce 26 = .ok (.invokevirtual 159, 3) := by decide +kernel
theorem dX12_readOnce_29 : decode cX12_readOnce 29 = .ok (.ireturn, 1) := by decide +kernel
theorem dX12_readOnce_30 : decode cX12_readOnce 30 = .ok (.aload_n 0, 1) := by decide +kernel
theorem dX12_readOnce_31 : decode cX12_readOnce 31 = .ok (.bipush 20, 2) := by decide +kernel
theorem dX12_readOnce_33 : decode cX12_readOnce 33 = .ok (.bipush 20, 2) := by decide +kernel
theorem dX12_readOnce_35 : decode cX12_readOnce 35 = .ok (.iload_n 2, 1) := by decide +kernel
theorem dX12_readOnce_36 : decode cX12_readOnce 36 = .ok (.bipush 8, 2) := by decide +kernel
theorem dX12_readOnce_38 : decode cX12_readOnce 38 = .ok (.isub, 1) := by decide +kernel
theorem dX12_readOnce_39 : decode cX12_readOnce 39 = .ok (.imul, 1) := by decide +kernel
theorem dX12_readOnce_40 : decode cX12_readOnce 40 = .ok (.iadd, 1) := by decide +kernel
theorem dX12_readOnce_41 : decode cX12_readOnce 41 = .ok (.putfield 166, 3) := by decide +kernel
theorem dX12_readOnce_44 : decode cX12_readOnce 44 = .ok (.aload_n 0, 1) := by decide +kernel
theorem dX12_readOnce_45 : decode cX12_readOnce 45 = .ok (.getfield 16, 3) := by decide +kernel
theorem dX12_readOnce_48 : decode cX12_readOnce 48 = .ok (.aload_n 0, 1) := by decide +kernel
theorem dX12_readOnce_49 : decode cX12_readOnce 49 = .ok (.getfield 166, 3) := by decide +kernel
theorem dX12_readOnce_52 : decode cX12_readOnce 52 = .ok (.iload_n 1, 1) := by decide +kernel
theorem dX12_readOnce_53 : decode cX12_readOnce 53 = .ok (.iadd, 1) := by decide +kernel
theorem dX12_readOnce_54 : decode cX12_readOnce 54 = .ok (.iaload, 1) := by decide +kernel
theorem dX12_readOnce_55 : decode cX12_readOnce 55 = .ok (.iconst (-1), 1) := by decide +kernel
theorem dX12_readOnce_56 : decode cX12_readOnce 56 = .ok (.if_icmp .eq 9, 3) := by decide +kernel
theorem dX12_readOnce_59 : decode cX12_readOnce 59 = .ok (.aload_n 0, 1) := by decide +kernel
theorem dX12_readOnce_60 : decode cX12_readOnce 60 = .ok (.iconst 3, 1) := by decide +kernel
theorem dX12_readOnce_61 : decode cX12_readOnce 61 = .ok (.invokevirtual 159, 3) := by decide +kernel
theorem dX12_readOnce_64 : decode cX12_readOnce 64 = .ok (.ireturn, 1) := by decide +kernel
theorem dX12_readOnce_65 : decode cX12_readOnce 65 = .ok (.aload_n 0, 1) := by decide +kernel
theorem dX12_readOnce_66 : decode cX12_readOnce 66 = .ok (.invokevirtual 169, 3) := by decide +kernel
theorem dX12_readOnce_69 : decode cX12_readOnce 69 = .ok (.iconst 1, 1) := by decide +kernel
theorem dX12_readOnce_70 : decode cX12_readOnce 70 = .ok (.ireturn, 1) := by decide +kernel
theorem dX12_readPaper_0 : decode cX12_readPaper 0 = .ok (.aload_n 0, 1) := by decide +kernel
theorem dX12_readPaper_1 : decode cX12_readPaper 1 = .ok (.invokevirtual 169, 3) := by decide +kernel
theorem dX12_readPaper_4 : decode cX12_readPaper 4 = .ok (.aload_n 0, 1) := by decide +kernel
theorem dX12_readPaper_5 : decode cX12_readPaper 5 = .ok (.bipush 10, 2) := by decide +kernel
theorem dX12_readPaper_7 : decode cX12_readPaper 7 = .ok (.invokevirtual 210, 3) := by decide +kernel
theorem dX12_readPaper_10 : decode cX12_readPaper 10 = .ok (.ifCond .ne 5, 3) := by decide +kernel
theorem dX12_readPaper_13 : decode cX12_readPaper 13 = .ok (.iconst 0, 1) := by decide +kernel
theorem dX12_readPaper_14 : decode cX12_readPaper 14 = .ok (.ireturn, 1) := by decide +kernel
theorem dX12_readPaper_15 : decode cX12_readPaper 15 = .ok (.aload_n 0, 1) := by decide +kernel
theorem dX12_readPaper_16 : decode cX12_readPaper 16 = .ok (.getfield 166, 3) := by decide +kernel
theorem dX12_readPaper_19 : decode cX12_readPaper 19 = .ok (.istore_n 1, 1) := by decide +kernel
theorem dX12_readPaper_20 : decode cX12_readPaper 20 = .ok (.aload_n 0, 1) := by decide +kernel
theorem dX12_readPaper_21 : decode cX12_readPaper 21 = .ok (.iconst 0, 1) := by decide +kernel
theorem dX12_readPaper_22 : decode cX12_readPaper 22 = .ok (.sipush 999, 3) := by decide +kernel
theorem dX12_readPaper_25 : decode cX12_readPaper 25 = .ok (.invokevirtual 197, 3) := by decide +kernel
theorem dX12_readPaper_28 : decode cX12_readPaper 28 = .ok (.ifCond .ne 5, 3) := by decide +kernel
theorem dX12_readPaper_31 : decode cX12_readPaper 31 = .ok (.iconst 0, 1) := by decide +kernel
theorem dX12_readPaper_32 : decode cX12_readPaper 32 = .ok (.ireturn, 1) := by decide +kernel
theorem dX12_readPaper_33 : decode cX12_readPaper 33 = .ok (.aload_n 0, 1) := by decide +kernel
theorem dX12_readPaper_34 : decode cX12_readPaper 34 = .ok (.getfield 166, 3) := by decide +kernel
theorem dX12_readPaper_37 : decode cX12_readPaper 37 = .ok (.istore_n 2, 1) := by decide +kernel
theorem dX12_readPaper_38 : decode cX12_readPaper 38 = .ok (.aload_n 0, 1) := by decide +kernel
theorem dX12_readPaper_39 : decode cX12_readPaper 39 = .ok (.iload_n 2, 1) := by decide +kernel
theorem dX12_readPaper_40 : decode cX12_readPaper 40 = .ok (.sipush 999, 3) := by decide +kernel
theorem dX12_readPaper_43 : decode cX12_readPaper 43 = .ok (.invokevirtual 197, 3) := by decide +kernel
theorem dX12_readPaper_46 : decode cX12_readPaper 46 = .ok (.ifCond .ne 5, 3) := by decide +kernel
theorem dX12_readPaper_49 : decode cX12_readPaper 49 = .ok (.iconst 0, 1) := by decide +kernel
theorem dX12_readPaper_50 : decode cX12_readPaper 50 = .ok (.ireturn, 1) := by decide +kernel
theorem dX12_readPaper_51 : decode cX12_readPaper 51 = .ok (.aload_n 0, 1) := by decide +kernel
theorem dX12_readPaper_52 : decode cX12_readPaper 52 = .ok (.getfield 166, 3) := by decide +kernel
theorem dX12_readPaper_55 : decode cX12_readPaper 55 = .ok (.istore_n 3, 1) := by decide +kernel
theorem dX12_readPaper_56 : decode cX12_readPaper 56 = .ok (.iconst (-1), 1) := by decide +kernel
theorem dX12_readPaper_57 : decode cX12_readPaper 57 = .ok (.istore 4, 2) := by decide +kernel
theorem dX12_readPaper_59 : decode cX12_readPaper 59 = .ok (.aload_n 0, 1) := by decide +kernel
theorem dX12_readPaper_60 : decode cX12_readPaper 60 = .ok (.bipush 14, 2) := by decide +kernel
theorem dX12_readPaper_62 : decode cX12_readPaper 62 = .ok (.invokevirtual 201, 3) := by decide +kernel
theorem dX12_readPaper_65 : decode cX12_readPaper 65 = .ok (.ifCond .eq 26, 3) := by decide +kernel
theorem dX12_readPaper_68 : decode cX12_readPaper 68 = .ok (.aload_n 0, 1) := by decide +kernel
theorem dX12_readPaper_69 : decode cX12_readPaper 69 = .ok (.invokevirtual 169, 3) := by decide +kernel
theorem dX12_readPaper_72 : decode cX12_readPaper 72 = .ok (.aload_n 0, 1) := by decide +kernel
theorem dX12_readPaper_73 : decode cX12_readPaper 73 = .ok (.iconst 0, 1) := by decide +kernel
theorem dX12_readPaper_74 : decode cX12_readPaper 74 = .ok (.sipush 999, 3) := by decide +kernel
theorem dX12_readPaper_77 : decode cX12_readPaper 77 = .ok (.invokevirtual 197, 3) := by decide +kernel
theorem dX12_readPaper_80 : decode cX12_readPaper 80 = .ok (.ifCond .ne 5, 3) := by decide +kernel
theorem dX12_readPaper_83 : decode cX12_readPaper 83 = .ok (.iconst 0, 1) := by decide +kernel
theorem dX12_readPaper_84 : decode cX12_readPaper 84 = .ok (.ireturn, 1) := by decide +kernel
theorem dX12_readPaper_85 : decode cX12_readPaper 85 = .ok (.aload_n 0, 1) := by decide +kernel
theorem dX12_readPaper_86 : decode cX12_readPaper 86 = .ok (.getfield 166, 3) := by decide +kernel
theorem dX12_readPaper_89 : decode cX12_readPaper 89 = .ok (.istore 4, 2) := by decide +kernel
theorem dX12_readPaper_91 : decode cX12_readPaper 91 = .ok (.aload_n 0, 1) := by decide +kernel
theorem dX12_readPaper_92 : decode cX12_readPaper 92 = .ok (.getfield 16, 3) := by decide +kernel
theorem dX12_readPaper_95 : decode cX12_readPaper 95 = .ok (.iload_n 1, 1) := by decide +kernel
theorem dX12_readPaper_96 : decode cX12_readPaper 96 = .ok (.bipush 10, 2) := by decide +kernel
theorem dX12_readPaper_98 : decode cX12_readPaper 98 = .ok (.iadd, 1) := by decide +kernel
theorem dX12_readPaper_99 : decode cX12_readPaper 99 = .ok (.iload_n 2, 1) := by decide +kernel
theorem dX12_readPaper_100 : decode cX12_readPaper 100 = .ok (.iastore, 1) := by decide +kernel
theorem dX12_readPaper_101 : decode cX12_readPaper 101 = .ok (.aload_n 0, 1) := by decide +kernel
theorem dX12_readPaper_102 : decode cX12_readPaper 102 = .ok (.getfield 16, 3) := by decide +kernel
theorem dX12_readPaper_105 : decode cX12_readPaper 105 = .ok (.iload_n 1, 1) := by decide +kernel
theorem dX12_readPaper_106 : decode cX12_readPaper 106 = .ok (.bipush 11, 2) := by decide +kernel
theorem dX12_readPaper_108 : decode cX12_readPaper 108 = .ok (.iadd, 1) := by decide +kernel
theorem dX12_readPaper_109 : decode cX12_readPaper 109 = .ok (.iload_n 3, 1) := by decide +kernel
theorem dX12_readPaper_110 : decode cX12_readPaper 110 = .ok (.iastore, 1) := by decide +kernel
theorem dX12_readPaper_111 : decode cX12_readPaper 111 = .ok (.aload_n 0, 1) := by decide +kernel
theorem dX12_readPaper_112 : decode cX12_readPaper 112 = .ok (.getfield 16, 3) := by decide +kernel
theorem dX12_readPaper_115 : decode cX12_readPaper 115 = .ok (.iload_n 1, 1) := by decide +kernel
theorem dX12_readPaper_116 : decode cX12_readPaper 116 = .ok (.bipush 12, 2) := by decide +kernel
theorem dX12_readPaper_118 : decode cX12_readPaper 118 = .ok (.iadd, 1) := by decide +kernel
theorem dX12_readPaper_119 : decode cX12_readPaper 119 = .ok (.iload 4, 2) := by decide +kernel
theorem dX12_readPaper_121 : decode cX12_readPaper 121 = .ok (.iastore, 1) := by decide +kernel
theorem dX12_readPaper_122 : decode cX12_readPaper 122 = .ok (.iconst 1, 1) := by decide +kernel
theorem dX12_readPaper_123 : decode cX12_readPaper 123 = .ok (.ireturn, 1) := by decide +kernel
theorem dX12_readNarrow_0 : decode cX12_readNarrow 0 = .ok (.aload_n 0, 1) := by decide +kernel
theorem dX12_readNarrow_1 : decode cX12_readNarrow 1 = .ok (.invokevirtual 169, 3) := by decide +kernel
theorem dX12_readNarrow_4 : decode cX12_readNarrow 4 = .ok (.aload_n 0, 1) := by decide +kernel
theorem dX12_readNarrow_5 : decode cX12_readNarrow 5 = .ok (.bipush 13, 2) := by decide +kernel
theorem dX12_readNarrow_7 : decode cX12_readNarrow 7 = .ok (.invokevirtual 210, 3) := by decide +kernel
theorem dX12_readNarrow_10 : decode cX12_readNarrow 10 = .ok (.ifCond .ne 5, 3) := by decide +kernel
theorem dX12_readNarrow_13 : decode cX12_readNarrow 13 = .ok (.iconst 0, 1) := by decide +kernel
theorem dX12_readNarrow_14 : decode cX12_readNarrow 14 = .ok (.ireturn, 1) := by decide +kernel
theorem dX12_readNarrow_15 : decode cX12_readNarrow 15 = .ok (.aload_n 0, 1) := by decide +kernel
theorem dX12_readNarrow_16 : decode cX12_readNarrow 16 = .ok (.getfield 166, 3) := by decide +kernel
theorem dX12_readNarrow_19 : decode cX12_readNarrow 19 = .ok (.istore_n 1, 1) := by decide +kernel
theorem dX12_readNarrow_20 : decode cX12_readNarrow 20 = .ok (.aload_n 0, 1) := by decide +kernel
theorem dX12_readNarrow_21 : decode cX12_readNarrow 21 = .ok (.iconst 0, 1) := by decide +kernel
theorem dX12_readNarrow_22 : decode cX12_readNarrow 22 = .ok (.sipush 9999, 3) := by decide +kernel
theorem dX12_readNarrow_25 : decode cX12_readNarrow 25 = .ok (.invokevirtual 197, 3) := by decide +kernel
theorem dX12_readNarrow_28 : decode cX12_readNarrow 28 = .ok (.ifCond .ne 5, 3) := by decide +kernel
theorem dX12_readNarrow_31 : decode cX12_readNarrow 31 = .ok (.iconst 0, 1) := by decide +kernel
theorem dX12_readNarrow_32 : decode cX12_readNarrow 32 = .ok (.ireturn, 1) := by decide +kernel
theorem dX12_readNarrow_33 : decode cX12_readNarrow 33 = .ok (.aload_n 0, 1) := by decide +kernel
theorem dX12_readNarrow_34 : decode cX12_readNarrow 34 = .ok (.getfield 16, 3) := by decide +kernel
theorem dX12_readNarrow_37 : decode cX12_readNarrow 37 = .ok (.iload_n 1, 1) := by decide +kernel
theorem dX12_readNarrow_38 : decode cX12_readNarrow 38 = .ok (.bipush 13, 2) := by decide +kernel
theorem dX12_readNarrow_40 : decode cX12_readNarrow 40 = .ok (.iadd, 1) := by decide +kernel
theorem dX12_readNarrow_41 : decode cX12_readNarrow 41 = .ok (.aload_n 0, 1) := by decide +kernel
theorem dX12_readNarrow_42 : decode cX12_readNarrow 42 = .ok (.getfield 166, 3) := by decide +kernel
theorem dX12_readNarrow_45 : decode cX12_readNarrow 45 = .ok (.iastore, 1) := by decide +kernel
theorem dX12_readNarrow_46 : decode cX12_readNarrow 46 = .ok (.iconst 1, 1) := by decide +kernel
theorem dX12_readNarrow_47 : decode cX12_readNarrow 47 = .ok (.ireturn, 1) := by decide +kernel
theorem dX12_readSingle_0 : decode cX12_readSingle 0 = .ok (.aload_n 0, 1) := by decide +kernel
theorem dX12_readSingle_1 : decode cX12_readSingle 1 = .ok (.getfield 213, 3) := by decide +kernel
theorem dX12_readSingle_4 : decode cX12_readSingle 4 = .ok (.iload_n 1, 1) := by decide +kernel
theorem dX12_readSingle_5 : decode cX12_readSingle 5 = .ok (.invokestatic 204, 3) := by decide +kernel
theorem dX12_readSingle_8 : decode cX12_readSingle 8 = .ok (.ifCond .eq 9, 3) := by decide +kernel
theorem dX12_readSingle_11 : decode cX12_readSingle 11 = .ok (.aload_n 0, 1) := by decide +kernel
theorem dX12_readSingle_12 : decode cX12_readSingle 12 = .ok (.iconst 3, 1) := by decide +kernel
theorem dX12_readSingle_13 : decode cX12_readSingle 13 = .ok (.invokevirtual 159, 3) := by decide +kernel
theorem dX12_readSingle_16 : decode cX12_readSingle 16 = .ok (.ireturn, 1) := by decide +kernel
theorem dX12_readSingle_17 : decode cX12_readSingle 17 = .ok (.aload_n 0, 1) := by decide +kernel
theorem dX12_readSingle_18 : decode cX12_readSingle 18 = .ok (.dup, 1) := by decide +kernel
theorem dX12_readSingle_19 : decode cX12_readSingle 19 = .ok (.getfield 213, 3) := by decide +kernel
theorem dX12_readSingle_22 : decode cX12_readSingle 22 = .ok (.iconst 1, 1) := by decide +kernel
theorem dX12_readSingle_23 : decode cX12_readSingle 23 = .ok (.iload_n 1, 1) := by decide +kernel
theorem dX12_readSingle_24 : decode cX12_readSingle 24 = .ok (.ishl, 1) := by decide +kernel
theorem dX12_readSingle_25 : decode cX12_readSingle 25 = .ok (.ior, 1) := by decide +kernel
theorem dX12_readSingle_26 : decode cX12_readSingle 26 = .ok (.putfield 213, 3) := by decide +kernel
theorem dX12_readSingle_29 : decode cX12_readSingle 29 = .ok (.aload_n 0, 1) := by decide +kernel
theorem dX12_readSingle_30 : decode cX12_readSingle 30 = .ok (.invokevirtual 169, 3) := by decide +kernel
theorem dX12_readSingle_33 : decode cX12_readSingle 33 = .ok (.iload_n 1, 1) := by decide +kernel
theorem dX12_readSingle_34 : decode cX12_readSingle 34 = .ok (.iconst 2, 1) := by decide +kernel
theorem dX12_readSingle_35 : decode cX12_readSingle 35 = .ok (.if_icmp .ne 28, 3) := by decide +kernel
theorem dX12_readSingle_38 : decode cX12_readSingle 38 = .ok (.aload_n 0, 1) := by decide +kernel
theorem dX12_readSingle_39 : decode cX12_readSingle 39 = .ok (.iconst 0, 1) := by decide +kernel
theorem dX12_readSingle_40 : decode cX12_readSingle 40 = .ok (.sipush 300, 3) := by decide +kernel
theorem dX12_readSingle_43 : decode cX12_readSingle 43 = .ok (.invokevirtual 197, 3) := by decide +kernel
theorem dX12_readSingle_46 : decode cX12_readSingle 46 = .ok (.ifCond .ne 5, 3) := by decide +kernel
theorem dX12_readSingle_49 : decode cX12_readSingle 49 = .ok (.iconst 0, 1) := by decide +kernel
theorem dX12_readSingle_50 : decode cX12_readSingle 50 = .ok (.ireturn, 1) := by decide +kernel
theorem dX12_readSingle_51 : decode cX12_readSingle 51 = .ok (.aload_n 0, 1) := by decide +kernel
theorem dX12_readSingle_52 : decode cX12_readSingle 52 = .ok (.getfield 16, 3) := by decide +kernel
theorem dX12_readSingle_55 : decode cX12_readSingle 55 = .ok (.iconst 3, 1) := by decide +kernel
theorem dX12_readSingle_56 : decode cX12_readSingle 56 = .ok (.aload_n 0, 1) := by decide +kernel
theorem dX12_readSingle_57 : decode cX12_readSingle 57 = .ok (.getfield 166, 3) := by decide +kernel
theorem dX12_readSingle_60 : decode cX12_readSingle 60 = .ok (.iastore, 1) := by decide +kernel
theorem dX12_readSingle_61 : decode cX12_readSingle 61 = .ok (.iconst 1, 1) := by decide +kernel
theorem dX12_readSingle_62 : decode cX12_readSingle 62 = .ok (.ireturn, 1) := by decide +kernel
theorem dX12_readSingle_63 : decode cX12_readSingle 63 = .ok (.aload_n 0, 1) := by decide +kernel
theorem dX12_readSingle_64 : decode cX12_readSingle 64 = .ok (.bipush 14, 2) := by decide +kernel
theorem dX12_readSingle_66 : decode cX12_readSingle 66 = .ok (.invokevirtual 201, 3) := by decide +kernel
theorem dX12_readSingle_69 : decode cX12_readSingle 69 = .ok (.istore_n 2, 1) := by decide +kernel
theorem dX12_readSingle_70 : decode cX12_readSingle 70 = .ok (.iload_n 2, 1) := by decide +kernel
theorem dX12_readSingle_71 : decode cX12_readSingle 71 = .ok (.ifCond .ne 17, 3) := by decide +kernel
theorem dX12_readSingle_74 : decode cX12_readSingle 74 = .ok (.aload_n 0, 1) := by decide +kernel
theorem dX12_readSingle_75 : decode cX12_readSingle 75 = .ok (.iconst 5, 1) := by decide +kernel
theorem dX12_readSingle_76 : decode cX12_readSingle 76 = .ok (.invokevirtual 201, 3) := by decide +kernel
theorem dX12_readSingle_79 : decode cX12_readSingle 79 = .ok (.ifCond .ne 9, 3) := by decide +kernel
theorem dX12_readSingle_82 : decode cX12_readSingle 82 = .ok (.aload_n 0, 1) := by decide +kernel
theorem dX12_readSingle_83 : decode cX12_readSingle 83 = .ok (.iconst 1, 1) := by decide +kernel
theorem dX12_readSingle_84 : decode cX12_readSingle 84 = .ok (.invokevirtual 159, 3) := by decide +kernel
theorem dX12_readSingle_87 : decode cX12_readSingle 87 = .ok (.ireturn, 1) := by decide +kernel
theorem dX12_readSingle_88 : decode cX12_readSingle 88 = .ok (.aload_n 0, 1) := by decide +kernel
theorem dX12_readSingle_89 : decode cX12_readSingle 89 = .ok (.getfield 16, 3) := by decide +kernel
theorem dX12_readSingle_92 : decode cX12_readSingle 92 = .ok (.iconst 4, 1) := by decide +kernel
theorem dX12_readSingle_93 : decode cX12_readSingle 93 = .ok (.iload_n 2, 1) := by decide +kernel
theorem dX12_readSingle_94 : decode cX12_readSingle 94 = .ok (.ifCond .eq 7, 3) := by decide +kernel
theorem dX12_readSingle_97 : decode cX12_readSingle 97 = .ok (.iconst 1, 1) := by decide +kernel
theorem dX12_readSingle_98 : decode cX12_readSingle 98 = .ok (.goto 4, 3) := by decide +kernel
theorem dX12_readSingle_101 : decode cX12_readSingle 101 = .ok (.iconst 0, 1) := by decide +kernel
theorem dX12_readSingle_102 : decode cX12_readSingle 102 = .ok (.iastore, 1) := by decide +kernel
theorem dX12_readSingle_103 : decode cX12_readSingle 103 = .ok (.aload_n 0, 1) := by decide +kernel
theorem dX12_readSingle_104 : decode cX12_readSingle 104 = .ok (.invokevirtual 169, 3) := by decide +kernel
theorem dX12_readSingle_107 : decode cX12_readSingle 107 = .ok (.iconst 1, 1) := by decide +kernel
theorem dX12_readSingle_108 : decode cX12_readSingle 108 = .ok (.ireturn, 1) := by decide +kernel
theorem dX12_readLand_0 : decode cX12_readLand 0 = .ok (.aload_n 0, 1) := by decide +kernel
theorem dX12_readLand_1 : decode cX12_readLand 1 = .ok (.getfield 16, 3) := by decide +kernel
theorem dX12_readLand_4 : decode cX12_readLand 4 = .ok (.iconst 0, 1) := by decide +kernel
theorem dX12_readLand_5 : decode cX12_readLand 5 = .ok (.iaload, 1) := by decide +kernel
theorem dX12_readLand_6 : decode cX12_readLand 6 = .ok (.bipush 8, 2) := by decide +kernel
theorem dX12_readLand_8 : decode cX12_readLand 8 = .ok (.if_icmp .ne 9, 3) := by decide +kernel
theorem dX12_readLand_11 : decode cX12_readLand 11 = .ok (.aload_n 0, 1) := by decide +kernel
theorem dX12_readLand_12 : decode cX12_readLand 12 = .ok (.iconst 4, 1) := by decide +kernel
theorem dX12_readLand_13 : decode cX12_readLand 13 = .ok (.invokevirtual 159, 3) := by decide +kernel
theorem dX12_readLand_16 : decode cX12_readLand 16 = .ok (.ireturn, 1) := by decide +kernel
theorem dX12_readLand_17 : decode cX12_readLand 17 = .ok (.aload_n 0, 1) := by decide +kernel
theorem dX12_readLand_18 : decode cX12_readLand 18 = .ok (.invokevirtual 169, 3) := by decide +kernel
theorem dX12_readLand_21 : decode cX12_readLand 21 = .ok (.aload_n 0, 1) := by decide +kernel
theorem dX12_readLand_22 : decode cX12_readLand 22 = .ok (.aload_n 0, 1) := by decide +kernel
theorem dX12_readLand_23 : decode cX12_readLand 23 = .ok (.getfield 16, 3) := by decide +kernel
theorem dX12_readLand_26 : decode cX12_readLand 26 = .ok (.iconst 0, 1) := by decide +kernel
theorem dX12_readLand_27 : decode cX12_readLand 27 = .ok (.iaload, 1) := by decide +kernel
theorem dX12_readLand_28 : decode cX12_readLand 28 = .ok (.invokevirtual 194, 3) := by decide +kernel
theorem dX12_readLand_31 : decode cX12_readLand 31 = .ok (.ifCond .ne 5, 3) := by decide +kernel
theorem dX12_readLand_34 : decode cX12_readLand 34 = .ok (.iconst 0, 1) := by decide +kernel
theorem dX12_readLand_35 : decode cX12_readLand 35 = .ok (.ireturn, 1) := by decide +kernel
theorem dX12_readLand_36 : decode cX12_readLand 36 = .ok (.aload_n 0, 1) := by decide +kernel
theorem dX12_readLand_37 : decode cX12_readLand 37 = .ok (.getfield 16, 3) := by decide +kernel
theorem dX12_readLand_40 : decode cX12_readLand 40 = .ok (.iconst 0, 1) := by decide +kernel
theorem dX12_readLand_41 : decode cX12_readLand 41 = .ok (.dup2, 1) := by decide +kernel
theorem dX12_readLand_42 : decode cX12_readLand 42 = .ok (.iaload, 1) := by decide +kernel
theorem dX12_readLand_43 : decode cX12_readLand 43 = .ok (.iconst 1, 1) := by decide +kernel
theorem dX12_readLand_44 : decode cX12_readLand 44 = .ok (.iadd, 1) := by decide +kernel
theorem dX12_readLand_45 : decode cX12_readLand 45 = .ok (.iastore, 1) := by decide +kernel
theorem dX12_readLand_46 : decode cX12_readLand 46 = .ok (.iconst 1, 1) := by decide +kernel
theorem dX12_readLand_47 : decode cX12_readLand 47 = .ok (.ireturn, 1) := by decide +kernel
theorem dX12_readLine_0 : decode cX12_readLine 0 = .ok (.iconst 0, 1) := by decide +kernel
theorem dX12_readLine_1 : decode cX12_readLine 1 = .ok (.istore_n 1, 1) := by decide +kernel
theorem dX12_readLine_2 : decode cX12_readLine 2 = .ok (.iload_n 1, 1) := by decide +kernel
theorem dX12_readLine_3 : decode cX12_readLine 3 = .ok (.bipush 6, 2) := by decide +kernel
theorem dX12_readLine_5 : decode cX12_readLine 5 = .ok (.if_icmp .gt 17, 3) := by decide +kernel
theorem dX12_readLine_8 : decode cX12_readLine 8 = .ok (.aload_n 0, 1) := by decide +kernel
theorem dX12_readLine_9 : decode cX12_readLine 9 = .ok (.iload_n 1, 1) := by decide +kernel
theorem dX12_readLine_10 : decode cX12_readLine 10 = .ok (.invokevirtual 201, 3) := by decide +kernel
theorem dX12_readLine_13 : decode cX12_readLine 13 = .ok (.ifCond .ne 9, 3) := by decide +kernel
theorem dX12_readLine_16 : decode cX12_readLine 16 = .ok (.iinc 1 1, 3) := by decide +kernel
theorem dX12_readLine_19 : decode cX12_readLine 19 = .ok (.goto (-17), 3) := by decide +kernel
theorem dX12_readLine_22 : decode cX12_readLine 22 = .ok (.iload_n 1, 1) := by decide +kernel
theorem dX12_readLine_23 : decode cX12_readLine 23 = .ok (.bipush 6, 2) := by decide +kernel
theorem dX12_readLine_25 : decode cX12_readLine 25 = .ok (.if_icmp .le 9, 3) := by decide +kernel
theorem dX12_readLine_28 : decode cX12_readLine 28 = .ok (.aload_n 0, 1) := by decide +kernel
theorem dX12_readLine_29 : decode cX12_readLine 29 = .ok (.iconst 1, 1) := by decide +kernel
theorem dX12_readLine_30 : decode cX12_readLine 30 = .ok (.invokevirtual 159, 3) := by decide +kernel
theorem dX12_readLine_33 : decode cX12_readLine 33 = .ok (.ireturn, 1) := by decide +kernel
theorem dX12_readLine_34 : decode cX12_readLine 34 = .ok (.iload_n 1, 1) := by decide +kernel
theorem dX12_readLine_35 : decode cX12_readLine 35 = .ok (.ifCond .ne 10, 3) := by decide +kernel
theorem dX12_readLine_38 : decode cX12_readLine 38 = .ok (.aload_n 0, 1) := by decide +kernel
theorem dX12_readLine_39 : decode cX12_readLine 39 = .ok (.invokevirtual 216, 3) := by decide +kernel
theorem dX12_readLine_42 : decode cX12_readLine 42 = .ok (.goto 57, 3) := by decide +kernel
theorem dX12_readLine_45 : decode cX12_readLine 45 = .ok (.iload_n 1, 1) := by decide +kernel
theorem dX12_readLine_46 : decode cX12_readLine 46 = .ok (.iconst 1, 1) := by decide +kernel
theorem dX12_readLine_47 : decode cX12_readLine 47 = .ok (.if_icmp .ne 10, 3) := by decide +kernel
theorem dX12_readLine_50 : decode cX12_readLine 50 = .ok (.aload_n 0, 1) := by decide +kernel
theorem dX12_readLine_51 : decode cX12_readLine 51 = .ok (.invokevirtual 219, 3) := by decide +kernel
theorem dX12_readLine_54 : decode cX12_readLine 54 = .ok (.goto 45, 3) := by decide +kernel
theorem dX12_readLine_57 : decode cX12_readLine 57 = .ok (.iload_n 1, 1) := by decide +kernel
theorem dX12_readLine_58 : decode cX12_readLine 58 = .ok (.iconst 3, 1) := by decide +kernel
theorem dX12_readLine_59 : decode cX12_readLine 59 = .ok (.if_icmp .ne 10, 3) := by decide +kernel
theorem dX12_readLine_62 : decode cX12_readLine 62 = .ok (.aload_n 0, 1) := by decide +kernel
theorem dX12_readLine_63 : decode cX12_readLine 63 = .ok (.invokevirtual 222, 3) := by decide +kernel
theorem dX12_readLine_66 : decode cX12_readLine 66 = .ok (.goto 33, 3) := by decide +kernel
theorem dX12_readLine_69 : decode cX12_readLine 69 = .ok (.iload_n 1, 1) := by decide +kernel
theorem dX12_readLine_70 : decode cX12_readLine 70 = .ok (.iconst 5, 1) := by decide +kernel
theorem dX12_readLine_71 : decode cX12_readLine 71 = .ok (.if_icmp .ne 10, 3) := by decide +kernel
theorem dX12_readLine_74 : decode cX12_readLine 74 = .ok (.aload_n 0, 1) := by decide +kernel
theorem dX12_readLine_75 : decode cX12_readLine 75 = .ok (.invokevirtual 225, 3) := by decide +kernel
theorem dX12_readLine_78 : decode cX12_readLine 78 = .ok (.goto 21, 3) := by decide +kernel
theorem dX12_readLine_81 : decode cX12_readLine 81 = .ok (.iload_n 1, 1) := by decide +kernel
theorem dX12_readLine_82 : decode cX12_readLine 82 = .ok (.bipush 6, 2) := by decide +kernel
theorem dX12_readLine_84 : decode cX12_readLine 84 = .ok (.if_icmp .ne 10, 3) := by decide +kernel
theorem dX12_readLine_87 : decode cX12_readLine 87 = .ok (.aload_n 0, 1) := by decide +kernel
theorem dX12_readLine_88 : decode cX12_readLine 88 = .ok (.invokevirtual 228, 3) := by decide +kernel
theorem dX12_readLine_91 : decode cX12_readLine 91 = .ok (.goto 8, 3) := by decide +kernel
theorem dX12_readLine_94 : decode cX12_readLine 94 = .ok (.aload_n 0, 1) := by decide +kernel
theorem dX12_readLine_95 : decode cX12_readLine 95 = .ok (.iload_n 1, 1) := by decide +kernel
theorem dX12_readLine_96 : decode cX12_readLine 96 = .ok (.invokevirtual 231, 3) := by decide +kernel
theorem dX12_readLine_99 : decode cX12_readLine 99 = .ok (.istore_n 2, 1) := by decide +kernel
theorem dX12_readLine_100 : decode cX12_readLine 100 = .ok (.iload_n 2, 1) := by decide +kernel
theorem dX12_readLine_101 : decode cX12_readLine 101 = .ok (.ifCond .ne 5, 3) := by decide +kernel
theorem dX12_readLine_104 : decode cX12_readLine 104 = .ok (.iconst 0, 1) := by decide +kernel
theorem dX12_readLine_105 : decode cX12_readLine 105 = .ok (.ireturn, 1) := by decide +kernel
theorem dX12_readLine_106 : decode cX12_readLine 106 = .ok (.aload_n 0, 1) := by decide +kernel
theorem dX12_readLine_107 : decode cX12_readLine 107 = .ok (.getfield 116, 3) := by decide +kernel
theorem dX12_readLine_110 : decode cX12_readLine 110 = .ok (.iconst 4, 1) := by decide +kernel
theorem dX12_readLine_111 : decode cX12_readLine 111 = .ok (.if_icmp .eq 9, 3) := by decide +kernel
theorem dX12_readLine_114 : decode cX12_readLine 114 = .ok (.aload_n 0, 1) := by decide +kernel
theorem dX12_readLine_115 : decode cX12_readLine 115 = .ok (.iconst 1, 1) := by decide +kernel
theorem dX12_readLine_116 : decode cX12_readLine 116 = .ok (.invokevirtual 159, 3) := by decide +kernel
theorem dX12_readLine_119 : decode cX12_readLine 119 = .ok (.ireturn, 1) := by decide +kernel
theorem dX12_readLine_120 : decode cX12_readLine 120 = .ok (.aload_n 0, 1) := by decide +kernel
theorem dX12_readLine_121 : decode cX12_readLine 121 = .ok (.invokevirtual 169, 3) := by decide +kernel
theorem dX12_readLine_124 : decode cX12_readLine 124 = .ok (.iconst 1, 1) := by decide +kernel
theorem dX12_readLine_125 : decode cX12_readLine 125 = .ok (.ireturn, 1) := by decide +kernel
theorem dX12_ring_0 : decode cX12_ring 0 = .ok (.aload_n 0, 1) := by decide +kernel
theorem dX12_ring_1 : decode cX12_ring 1 = .ok (.iconst 0, 1) := by decide +kernel
theorem dX12_ring_2 : decode cX12_ring 2 = .ok (.putfield 97, 3) := by decide +kernel
theorem dX12_ring_5 : decode cX12_ring 5 = .ok (.aload_n 0, 1) := by decide +kernel
theorem dX12_ring_6 : decode cX12_ring 6 = .ok (.invokevirtual 234, 3) := by decide +kernel
theorem dX12_ring_9 : decode cX12_ring 9 = .ok (.aload_n 0, 1) := by decide +kernel
theorem dX12_ring_10 : decode cX12_ring 10 = .ok (.aload_n 0, 1) := by decide +kernel
theorem dX12_ring_11 : decode cX12_ring 11 = .ok (.invokevirtual 237, 3) := by decide +kernel
theorem dX12_ring_14 : decode cX12_ring 14 = .ok (.putfield 107, 3) := by decide +kernel
theorem dX12_ring_17 : decode cX12_ring 17 = .ok (.aload_n 0, 1) := by decide +kernel
theorem dX12_ring_18 : decode cX12_ring 18 = .ok (.iconst 0, 1) := by decide +kernel
theorem dX12_ring_19 : decode cX12_ring 19 = .ok (.putfield 153, 3) := by decide +kernel
theorem dX12_ring_22 : decode cX12_ring 22 = .ok (.aload_n 0, 1) := by decide +kernel
theorem dX12_ring_23 : decode cX12_ring 23 = .ok (.iconst 0, 1) := by decide +kernel
theorem dX12_ring_24 : decode cX12_ring 24 = .ok (.putfield 110, 3) := by decide +kernel
theorem dX12_ring_27 : decode cX12_ring 27 = .ok (.iconst 0, 1) := by decide +kernel
theorem dX12_ring_28 : decode cX12_ring 28 = .ok (.istore_n 1, 1) := by decide +kernel
theorem dX12_ring_29 : decode cX12_ring 29 = .ok (.iload_n 1, 1) := by decide +kernel
theorem dX12_ring_30 : decode cX12_ring 30 = .ok (.bipush 20, 2) := by decide +kernel
theorem dX12_ring_32 : decode cX12_ring 32 = .ok (.if_icmp .ge 16, 3) := by decide +kernel
theorem dX12_ring_35 : decode cX12_ring 35 = .ok (.aload_n 0, 1) := by decide +kernel
theorem dX12_ring_36 : decode cX12_ring 36 = .ok (.getfield 16, 3) := by decide +kernel
theorem dX12_ring_39 : decode cX12_ring 39 = .ok (.iload_n 1, 1) := by decide +kernel
theorem dX12_ring_40 : decode cX12_ring 40 = .ok (.iconst 0, 1) := by decide +kernel
theorem dX12_ring_41 : decode cX12_ring 41 = .ok (.iastore, 1) := by decide +kernel
theorem dX12_ring_42 : decode cX12_ring 42 = .ok (.iinc 1 1, 3) := by decide +kernel
theorem dX12_ring_45 : decode cX12_ring 45 = .ok (.goto (-16), 3) := by decide +kernel
theorem dX12_ring_48 : decode cX12_ring 48 = .ok (.aload_n 0, 1) := by decide +kernel
theorem dX12_ring_49 : decode cX12_ring 49 = .ok (.getfield 16, 3) := by decide +kernel
theorem dX12_ring_52 : decode cX12_ring 52 = .ok (.iconst 3, 1) := by decide +kernel
theorem dX12_ring_53 : decode cX12_ring 53 = .ok (.bipush 20, 2) := by decide +kernel
theorem dX12_ring_55 : decode cX12_ring 55 = .ok (.iastore, 1) := by decide +kernel
theorem dX12_ring_56 : decode cX12_ring 56 = .ok (.aload_n 0, 1) := by decide +kernel
theorem dX12_ring_57 : decode cX12_ring 57 = .ok (.iconst 0, 1) := by decide +kernel
theorem dX12_ring_58 : decode cX12_ring 58 = .ok (.putfield 213, 3) := by decide +kernel
theorem dX12_ring_61 : decode cX12_ring 61 = .ok (.iconst 0, 1) := by decide +kernel
theorem dX12_ring_62 : decode cX12_ring 62 = .ok (.istore_n 1, 1) := by decide +kernel
theorem dX12_ring_63 : decode cX12_ring 63 = .ok (.aload_n 0, 1) := by decide +kernel
theorem dX12_ring_64 : decode cX12_ring 64 = .ok (.invokevirtual 169, 3) := by decide +kernel
theorem dX12_ring_67 : decode cX12_ring 67 = .ok (.aload_n 0, 1) := by decide +kernel
theorem dX12_ring_68 : decode cX12_ring 68 = .ok (.getfield 116, 3) := by decide +kernel
theorem dX12_ring_71 : decode cX12_ring 71 = .ok (.ifCond .eq 23, 3) := by decide +kernel
theorem dX12_ring_74 : decode cX12_ring 74 = .ok (.aload_n 0, 1) := by decide +kernel
theorem dX12_ring_75 : decode cX12_ring 75 = .ok (.invokevirtual 240, 3) := by decide +kernel
theorem dX12_ring_78 : decode cX12_ring 78 = .ok (.ifCond .ne 10, 3) := by decide +kernel
theorem dX12_ring_81 : decode cX12_ring 81 = .ok (.iconst (-1), 1) := by decide +kernel
theorem dX12_ring_82 : decode cX12_ring 82 = .ok (.aload_n 0, 1) := by decide +kernel
theorem dX12_ring_83 : decode cX12_ring 83 = .ok (.getfield 156, 3) := by decide +kernel
theorem dX12_ring_86 : decode cX12_ring 86 = .ok (.isub, 1) := by decide +kernel
theorem dX12_ring_87 : decode cX12_ring 87 = .ok (.ireturn, 1) := by decide +kernel
theorem dX12_ring_88 : decode cX12_ring 88 = .ok (.iinc 1 1, 3) := by decide +kernel
theorem dX12_ring_91 : decode cX12_ring 91 = .ok (.goto (-24), 3) := by decide +kernel
theorem dX12_ring_94 : decode cX12_ring 94 = .ok (.iconst 0, 1) := by decide +kernel
theorem dX12_ring_95 : decode cX12_ring 95 = .ok (.istore_n 2, 1) := by decide +kernel
theorem dX12_ring_96 : decode cX12_ring 96 = .ok (.iload_n 2, 1) := by decide +kernel
theorem dX12_ring_97 : decode cX12_ring 97 = .ok (.sipush 340, 3) := by decide +kernel
theorem dX12_ring_100 : decode cX12_ring 100 = .ok (.if_icmp .ge 21, 3) := by decide +kernel
theorem dX12_ring_103 : decode cX12_ring 103 = .ok (.aload_n 0, 1) := by decide +kernel
theorem dX12_ring_104 : decode cX12_ring 104 = .ok (.getfield 13, 3) := by decide +kernel
theorem dX12_ring_107 : decode cX12_ring 107 = .ok (.iload_n 2, 1) := by decide +kernel
theorem dX12_ring_108 : decode cX12_ring 108 = .ok (.aload_n 0, 1) := by decide +kernel
theorem dX12_ring_109 : decode cX12_ring 109 = .ok (.getfield 16, 3) := by decide +kernel
theorem dX12_ring_112 : decode cX12_ring 112 = .ok (.iload_n 2, 1) := by decide +kernel
theorem dX12_ring_113 : decode cX12_ring 113 = .ok (.iaload, 1) := by decide +kernel
theorem dX12_ring_114 : decode cX12_ring 114 = .ok (.iastore, 1) := by decide +kernel
theorem dX12_ring_115 : decode cX12_ring 115 = .ok (.iinc 2 1, 3) := by decide +kernel
theorem dX12_ring_118 : decode cX12_ring 118 = .ok (.goto (-22), 3) := by decide +kernel
theorem dX12_ring_121 : decode cX12_ring 121 = .ok (.iconst 0, 1) := by decide +kernel
theorem dX12_ring_122 : decode cX12_ring 122 = .ok (.istore_n 2, 1) := by decide +kernel
theorem dX12_ring_123 : decode cX12_ring 123 = .ok (.iload_n 2, 1) := by decide +kernel
theorem dX12_ring_124 : decode cX12_ring 124 = .ok (.bipush 16, 2) := by decide +kernel
theorem dX12_ring_126 : decode cX12_ring 126 = .ok (.if_icmp .ge 28, 3) := by decide +kernel
theorem dX12_ring_129 : decode cX12_ring 129 = .ok (.aload_n 0, 1) := by decide +kernel
theorem dX12_ring_130 : decode cX12_ring 130 = .ok (.getfield 22, 3) := by decide +kernel
theorem dX12_ring_133 : decode cX12_ring 133 = .ok (.iload_n 2, 1) := by decide +kernel
theorem dX12_ring_134 : decode cX12_ring 134 = .ok (.aload_n 0, 1) := by decide +kernel
theorem dX12_ring_135 : decode cX12_ring 135 = .ok (.getfield 26, 3) := by decide +kernel
theorem dX12_ring_138 : decode cX12_ring 138 = .ok (.iload_n 2, 1) := by decide +kernel
theorem dX12_ring_139 : decode cX12_ring 139 = .ok (.laload, 1) := by decide +kernel
theorem dX12_ring_140 : decode cX12_ring 140 = .ok (.lastore, 1) := by decide +kernel
theorem dX12_ring_141 : decode cX12_ring 141 = .ok (.aload_n 0, 1) := by decide +kernel
theorem dX12_ring_142 : decode cX12_ring 142 = .ok (.iload_n 2, 1) := by decide +kernel
theorem dX12_ring_143 : decode cX12_ring 143 = .ok (.iconst (-1), 1) := by decide +kernel
theorem dX12_ring_144 : decode cX12_ring 144 = .ok (.iconst 0, 1) := by decide +kernel
theorem dX12_ring_145 : decode cX12_ring 145 = .ok (.invokevirtual 243, 3) := by decide +kernel
theorem dX12_ring_148 : decode cX12_ring 148 = .ok (.iinc 2 1, 3) := by decide +kernel
theorem dX12_ring_151 : decode cX12_ring 151 = .ok (.goto (-28), 3) := by decide +kernel
theorem dX12_ring_154 : decode cX12_ring 154 = .ok (.iload_n 1, 1) := by decide +kernel
theorem dX12_ring_155 : decode cX12_ring 155 = .ok (.ireturn, 1) := by decide +kernel
theorem dX12_fault_0 : decode cX12_fault 0 = .ok (.aload_n 0, 1) := by decide +kernel
theorem dX12_fault_1 : decode cX12_fault 1 = .ok (.iconst 0, 1) := by decide +kernel
theorem dX12_fault_2 : decode cX12_fault 2 = .ok (.putfield 97, 3) := by decide +kernel
theorem dX12_fault_5 : decode cX12_fault 5 = .ok (.aload_n 0, 1) := by decide +kernel
theorem dX12_fault_6 : decode cX12_fault 6 = .ok (.getfield 153, 3) := by decide +kernel
theorem dX12_fault_9 : decode cX12_fault 9 = .ok (.ireturn, 1) := by decide +kernel
theorem dX12_thing_0 : decode cX12_thing 0 = .ok (.aload_n 0, 1) := by decide +kernel
theorem dX12_thing_1 : decode cX12_thing 1 = .ok (.invokevirtual 234, 3) := by decide +kernel
theorem dX12_thing_4 : decode cX12_thing 4 = .ok (.aload_n 0, 1) := by decide +kernel
theorem dX12_thing_5 : decode cX12_thing 5 = .ok (.iload_n 1, 1) := by decide +kernel
theorem dX12_thing_6 : decode cX12_thing 6 = .ok (.invokevirtual 247, 3) := by decide +kernel
theorem dX12_thing_9 : decode cX12_thing 9 = .ok (.ifCond .eq 13, 3) := by decide +kernel
theorem dX12_thing_12 : decode cX12_thing 12 = .ok (.iload_n 2, 1) := by decide +kernel
theorem dX12_thing_13 : decode cX12_thing 13 = .ok (.iconst 0, 1) := by decide +kernel
theorem dX12_thing_14 : decode cX12_thing 14 = .ok (.bipush 13, 2) := by decide +kernel
theorem dX12_thing_16 : decode cX12_thing 16 = .ok (.invokestatic 162, 3) := by decide +kernel
theorem dX12_thing_19 : decode cX12_thing 19 = .ok (.ifCond .ne 8, 3) := by decide +kernel
theorem dX12_thing_22 : decode cX12_thing 22 = .ok (.aload_n 0, 1) := by decide +kernel
theorem dX12_thing_23 : decode cX12_thing 23 = .ok (.invokevirtual 250, 3) := by decide +kernel
theorem dX12_thing_26 : decode cX12_thing 26 = .ok (.ireturn, 1) := by decide +kernel
theorem dX12_thing_27 : decode cX12_thing 27 = .ok (.aload_n 0, 1) := by decide +kernel
theorem dX12_thing_28 : decode cX12_thing 28 = .ok (.iconst 0, 1) := by decide +kernel
theorem dX12_thing_29 : decode cX12_thing 29 = .ok (.putfield 97, 3) := by decide +kernel
theorem dX12_thing_32 : decode cX12_thing 32 = .ok (.aload_n 0, 1) := by decide +kernel
theorem dX12_thing_33 : decode cX12_thing 33 = .ok (.iload_n 1, 1) := by decide +kernel
theorem dX12_thing_34 : decode cX12_thing 34 = .ok (.iload_n 2, 1) := by decide +kernel
theorem dX12_thing_35 : decode cX12_thing 35 = .ok (.invokevirtual 180, 3) := by decide +kernel
theorem dX12_thing_38 : decode cX12_thing 38 = .ok (.ireturn, 1) := by decide +kernel
theorem dX12_ground_0 : decode cX12_ground 0 = .ok (.aload_n 0, 1) := by decide +kernel
theorem dX12_ground_1 : decode cX12_ground 1 = .ok (.iconst 0, 1) := by decide +kernel
theorem dX12_ground_2 : decode cX12_ground 2 = .ok (.putfield 97, 3) := by decide +kernel
theorem dX12_ground_5 : decode cX12_ground 5 = .ok (.aload_n 0, 1) := by decide +kernel
theorem dX12_ground_6 : decode cX12_ground 6 = .ok (.invokevirtual 234, 3) := by decide +kernel
theorem dX12_ground_9 : decode cX12_ground 9 = .ok (.aload_n 0, 1) := by decide +kernel
theorem dX12_ground_10 : decode cX12_ground 10 = .ok (.iload_n 1, 1) := by decide +kernel
theorem dX12_ground_11 : decode cX12_ground 11 = .ok (.invokevirtual 247, 3) := by decide +kernel
theorem dX12_ground_14 : decode cX12_ground 14 = .ok (.ifCond .eq 12, 3) := by decide +kernel
theorem dX12_ground_17 : decode cX12_ground 17 = .ok (.aload_n 0, 1) := by decide +kernel
theorem dX12_ground_18 : decode cX12_ground 18 = .ok (.getfield 22, 3) := by decide +kernel
theorem dX12_ground_21 : decode cX12_ground 21 = .ok (.iload_n 1, 1) := by decide +kernel
theorem dX12_ground_22 : decode cX12_ground 22 = .ok (.laload, 1) := by decide +kernel
theorem dX12_ground_23 : decode cX12_ground 23 = .ok (.goto 4, 3) := by decide +kernel
theorem dX12_ground_26 : decode cX12_ground 26 = .ok (.lconst 0, 1) := by decide +kernel
theorem dX12_ground_27 : decode cX12_ground 27 = .ok (.lreturn, 1) := by decide +kernel
theorem dX12_place_0 : decode cX12_place 0 = .ok (.aload_n 0, 1) := by decide +kernel
theorem dX12_place_1 : decode cX12_place 1 = .ok (.iconst 0, 1) := by decide +kernel
theorem dX12_place_2 : decode cX12_place 2 = .ok (.putfield 97, 3) := by decide +kernel
theorem dX12_place_5 : decode cX12_place 5 = .ok (.aload_n 0, 1) := by decide +kernel
theorem dX12_place_6 : decode cX12_place 6 = .ok (.invokevirtual 234, 3) := by decide +kernel
theorem dX12_place_9 : decode cX12_place 9 = .ok (.iload_n 1, 1) := by decide +kernel
theorem dX12_place_10 : decode cX12_place 10 = .ok (.ifCond .lt 24, 3) := by decide +kernel
theorem dX12_place_13 : decode cX12_place 13 = .ok (.iload_n 1, 1) := by decide +kernel
theorem dX12_place_14 : decode cX12_place 14 = .ok (.aload_n 0, 1) := by decide +kernel
theorem dX12_place_15 : decode cX12_place 15 = .ok (.getfield 13, 3) := by decide +kernel
theorem dX12_place_18 : decode cX12_place 18 = .ok (.iconst 2, 1) := by decide +kernel
theorem dX12_place_19 : decode cX12_place 19 = .ok (.iaload, 1) := by decide +kernel
theorem dX12_place_20 : decode cX12_place 20 = .ok (.if_icmp .ge 14, 3) := by decide +kernel
theorem dX12_place_23 : decode cX12_place 23 = .ok (.aload_n 0, 1) := by decide +kernel
theorem dX12_place_24 : decode cX12_place 24 = .ok (.getfield 13, 3) := by decide +kernel
theorem dX12_place_27 : decode cX12_place 27 = .ok (.iconst 5, 1) := by decide +kernel
theorem dX12_place_28 : decode cX12_place 28 = .ok (.iload_n 1, 1) := by decide +kernel
theorem dX12_place_29 : decode cX12_place 29 = .ok (.iadd, 1) := by decide +kernel
theorem dX12_place_30 : decode cX12_place 30 = .ok (.iaload, 1) := by decide +kernel
theorem dX12_place_31 : decode cX12_place 31 = .ok (.goto 4, 3) := by decide +kernel
theorem dX12_place_34 : decode cX12_place 34 = .ok (.iconst (-1), 1) := by decide +kernel
theorem dX12_place_35 : decode cX12_place 35 = .ok (.ireturn, 1) := by decide +kernel
theorem dX12_stand_0 : decode cX12_stand 0 = .ok (.aload_n 0, 1) := by decide +kernel
theorem dX12_stand_1 : decode cX12_stand 1 = .ok (.iconst 0, 1) := by decide +kernel
theorem dX12_stand_2 : decode cX12_stand 2 = .ok (.putfield 97, 3) := by decide +kernel
theorem dX12_stand_5 : decode cX12_stand 5 = .ok (.aload_n 0, 1) := by decide +kernel
theorem dX12_stand_6 : decode cX12_stand 6 = .ok (.invokevirtual 234, 3) := by decide +kernel
theorem dX12_stand_9 : decode cX12_stand 9 = .ok (.aload_n 0, 1) := by decide +kernel
theorem dX12_stand_10 : decode cX12_stand 10 = .ok (.iload_n 1, 1) := by decide +kernel
theorem dX12_stand_11 : decode cX12_stand 11 = .ok (.invokevirtual 247, 3) := by decide +kernel
theorem dX12_stand_14 : decode cX12_stand 14 = .ok (.ifCond .eq 23, 3) := by decide +kernel
theorem dX12_stand_17 : decode cX12_stand 17 = .ok (.iload_n 2, 1) := by decide +kernel
theorem dX12_stand_18 : decode cX12_stand 18 = .ok (.iconst 0, 1) := by decide +kernel
theorem dX12_stand_19 : decode cX12_stand 19 = .ok (.sipush 3599, 3) := by decide +kernel
theorem dX12_stand_22 : decode cX12_stand 22 = .ok (.invokestatic 162, 3) := by decide +kernel
theorem dX12_stand_25 : decode cX12_stand 25 = .ok (.ifCond .eq 12, 3) := by decide +kernel
theorem dX12_stand_28 : decode cX12_stand 28 = .ok (.iload_n 3, 1) := by decide +kernel
theorem dX12_stand_29 : decode cX12_stand 29 = .ok (.iconst 0, 1) := by decide +kernel
theorem dX12_stand_30 : decode cX12_stand 30 = .ok (.iconst 3, 1) := by decide +kernel
theorem dX12_stand_31 : decode cX12_stand 31 = .ok (.invokestatic 162, 3) := by decide +kernel
theorem dX12_stand_34 : decode cX12_stand 34 = .ok (.ifCond .ne 5, 3) := by decide +kernel
theorem dX12_stand_37 : decode cX12_stand 37 = .ok (.iconst 0, 1) := by decide +kernel
theorem dX12_stand_38 : decode cX12_stand 38 = .ok (.ireturn, 1) := by decide +kernel
theorem dX12_stand_39 : decode cX12_stand 39 = .ok (.aload_n 0, 1) := by decide +kernel
theorem dX12_stand_40 : decode cX12_stand 40 = .ok (.iload_n 1, 1) := by decide +kernel
theorem dX12_stand_41 : decode cX12_stand 41 = .ok (.iload_n 2, 1) := by decide +kernel
theorem dX12_stand_42 : decode cX12_stand 42 = .ok (.iload_n 3, 1) := by decide +kernel
theorem dX12_stand_43 : decode cX12_stand 43 = .ok (.invokevirtual 243, 3) := by decide +kernel
theorem dX12_stand_46 : decode cX12_stand 46 = .ok (.iconst 1, 1) := by decide +kernel
theorem dX12_stand_47 : decode cX12_stand 47 = .ok (.ireturn, 1) := by decide +kernel
theorem dX12_lift_0 : decode cX12_lift 0 = .ok (.aload_n 0, 1) := by decide +kernel
theorem dX12_lift_1 : decode cX12_lift 1 = .ok (.iconst 0, 1) := by decide +kernel
theorem dX12_lift_2 : decode cX12_lift 2 = .ok (.putfield 97, 3) := by decide +kernel
theorem dX12_lift_5 : decode cX12_lift 5 = .ok (.aload_n 0, 1) := by decide +kernel
theorem dX12_lift_6 : decode cX12_lift 6 = .ok (.invokevirtual 234, 3) := by decide +kernel
theorem dX12_lift_9 : decode cX12_lift 9 = .ok (.aload_n 0, 1) := by decide +kernel
theorem dX12_lift_10 : decode cX12_lift 10 = .ok (.iload_n 1, 1) := by decide +kernel
theorem dX12_lift_11 : decode cX12_lift 11 = .ok (.invokevirtual 247, 3) := by decide +kernel
theorem dX12_lift_14 : decode cX12_lift 14 = .ok (.ifCond .eq 11, 3) := by decide +kernel
theorem dX12_lift_17 : decode cX12_lift 17 = .ok (.aload_n 0, 1) := by decide +kernel
theorem dX12_lift_18 : decode cX12_lift 18 = .ok (.iload_n 1, 1) := by decide +kernel
theorem dX12_lift_19 : decode cX12_lift 19 = .ok (.invokevirtual 253, 3) := by decide +kernel
theorem dX12_lift_22 : decode cX12_lift 22 = .ok (.ifCond .ne 5, 3) := by decide +kernel
theorem dX12_lift_25 : decode cX12_lift 25 = .ok (.iconst 0, 1) := by decide +kernel
theorem dX12_lift_26 : decode cX12_lift 26 = .ok (.ireturn, 1) := by decide +kernel
theorem dX12_lift_27 : decode cX12_lift 27 = .ok (.aload_n 0, 1) := by decide +kernel
theorem dX12_lift_28 : decode cX12_lift 28 = .ok (.iload_n 1, 1) := by decide +kernel
theorem dX12_lift_29 : decode cX12_lift 29 = .ok (.iconst (-1), 1) := by decide +kernel
theorem dX12_lift_30 : decode cX12_lift 30 = .ok (.iconst 0, 1) := by decide +kernel
theorem dX12_lift_31 : decode cX12_lift 31 = .ok (.invokevirtual 243, 3) := by decide +kernel
theorem dX12_lift_34 : decode cX12_lift 34 = .ok (.iconst 1, 1) := by decide +kernel
theorem dX12_lift_35 : decode cX12_lift 35 = .ok (.ireturn, 1) := by decide +kernel
theorem dX12_stands_0 : decode cX12_stands 0 = .ok (.aload_n 0, 1) := by decide +kernel
theorem dX12_stands_1 : decode cX12_stands 1 = .ok (.iconst 0, 1) := by decide +kernel
theorem dX12_stands_2 : decode cX12_stands 2 = .ok (.putfield 97, 3) := by decide +kernel
theorem dX12_stands_5 : decode cX12_stands 5 = .ok (.aload_n 0, 1) := by decide +kernel
theorem dX12_stands_6 : decode cX12_stands 6 = .ok (.invokevirtual 234, 3) := by decide +kernel
theorem dX12_stands_9 : decode cX12_stands 9 = .ok (.aload_n 0, 1) := by decide +kernel
theorem dX12_stands_10 : decode cX12_stands 10 = .ok (.iload_n 1, 1) := by decide +kernel
theorem dX12_stands_11 : decode cX12_stands 11 = .ok (.invokevirtual 247, 3) := by decide +kernel
theorem dX12_stands_14 : decode cX12_stands 14 = .ok (.ifCond .eq 20, 3) := by decide +kernel
theorem dX12_stands_17 : decode cX12_stands 17 = .ok (.aload_n 0, 1) := by decide +kernel
theorem dX12_stands_18 : decode cX12_stands 18 = .ok (.iload_n 1, 1) := by decide +kernel
theorem dX12_stands_19 : decode cX12_stands 19 = .ok (.invokevirtual 253, 3) := by decide +kernel
theorem dX12_stands_22 : decode cX12_stands 22 = .ok (.ifCond .eq 12, 3) := by decide +kernel
theorem dX12_stands_25 : decode cX12_stands 25 = .ok (.iload_n 2, 1) := by decide +kernel
theorem dX12_stands_26 : decode cX12_stands 26 = .ok (.iconst 0, 1) := by decide +kernel
theorem dX12_stands_27 : decode cX12_stands 27 = .ok (.iconst 1, 1) := by decide +kernel
theorem dX12_stands_28 : decode cX12_stands 28 = .ok (.invokestatic 162, 3) := by decide +kernel
theorem dX12_stands_31 : decode cX12_stands 31 = .ok (.ifCond .ne 5, 3) := by decide +kernel
theorem dX12_stands_34 : decode cX12_stands 34 = .ok (.iconst (-1), 1) := by decide +kernel
theorem dX12_stands_35 : decode cX12_stands 35 = .ok (.ireturn, 1) := by decide +kernel
theorem dX12_stands_36 : decode cX12_stands 36 = .ok (.iload_n 2, 1) := by decide +kernel
theorem dX12_stands_37 : decode cX12_stands 37 = .ok (.ifCond .ne 11, 3) := by decide +kernel
theorem dX12_stands_40 : decode cX12_stands 40 = .ok (.aload_n 0, 1) := by decide +kernel
theorem dX12_stands_41 : decode cX12_stands 41 = .ok (.iload_n 1, 1) := by decide +kernel
theorem dX12_stands_42 : decode cX12_stands 42 = .ok (.invokevirtual 184, 3) := by decide +kernel
theorem dX12_stands_45 : decode cX12_stands 45 = .ok (.goto 8, 3) := by decide +kernel
theorem dX12_stands_48 : decode cX12_stands 48 = .ok (.aload_n 0, 1) := by decide +kernel
theorem dX12_stands_49 : decode cX12_stands 49 = .ok (.iload_n 1, 1) := by decide +kernel
theorem dX12_stands_50 : decode cX12_stands 50 = .ok (.invokevirtual 256, 3) := by decide +kernel
theorem dX12_stands_53 : decode cX12_stands 53 = .ok (.ireturn, 1) := by decide +kernel
theorem dX12_apart_0 : decode cX12_apart 0 = .ok (.iload_n 0, 1) := by decide +kernel
theorem dX12_apart_1 : decode cX12_apart 1 = .ok (.iload_n 1, 1) := by decide +kernel
theorem dX12_apart_2 : decode cX12_apart 2 = .ok (.if_icmp .le 9, 3) := by decide +kernel
theorem dX12_apart_5 : decode cX12_apart 5 = .ok (.iload_n 0, 1) := by decide +kernel
theorem dX12_apart_6 : decode cX12_apart 6 = .ok (.iload_n 1, 1) := by decide +kernel
theorem dX12_apart_7 : decode cX12_apart 7 = .ok (.isub, 1) := by decide +kernel
theorem dX12_apart_8 : decode cX12_apart 8 = .ok (.goto 6, 3) := by decide +kernel
theorem dX12_apart_11 : decode cX12_apart 11 = .ok (.iload_n 1, 1) := by decide +kernel
theorem dX12_apart_12 : decode cX12_apart 12 = .ok (.iload_n 0, 1) := by decide +kernel
theorem dX12_apart_13 : decode cX12_apart 13 = .ok (.isub, 1) := by decide +kernel
theorem dX12_apart_14 : decode cX12_apart 14 = .ok (.istore_n 2, 1) := by decide +kernel
theorem dX12_apart_15 : decode cX12_apart 15 = .ok (.iload_n 2, 1) := by decide +kernel
theorem dX12_apart_16 : decode cX12_apart 16 = .ok (.sipush 1800, 3) := by decide +kernel
theorem dX12_apart_19 : decode cX12_apart 19 = .ok (.if_icmp .le 11, 3) := by decide +kernel
theorem dX12_apart_22 : decode cX12_apart 22 = .ok (.sipush 3600, 3) := by decide +kernel
theorem dX12_apart_25 : decode cX12_apart 25 = .ok (.iload_n 2, 1) := by decide +kernel
theorem dX12_apart_26 : decode cX12_apart 26 = .ok (.isub, 1) := by decide +kernel
theorem dX12_apart_27 : decode cX12_apart 27 = .ok (.goto 4, 3) := by decide +kernel
theorem dX12_apart_30 : decode cX12_apart 30 = .ok (.iload_n 2, 1) := by decide +kernel
theorem dX12_apart_31 : decode cX12_apart 31 = .ok (.ireturn, 1) := by decide +kernel
theorem dX12_touches_0 : decode cX12_touches 0 = .ok (.aload_n 0, 1) := by decide +kernel
theorem dX12_touches_1 : decode cX12_touches 1 = .ok (.getfield 22, 3) := by decide +kernel
theorem dX12_touches_4 : decode cX12_touches 4 = .ok (.iload_n 1, 1) := by decide +kernel
theorem dX12_touches_5 : decode cX12_touches 5 = .ok (.laload, 1) := by decide +kernel
theorem dX12_touches_6 : decode cX12_touches 6 = .ok (.aload_n 0, 1) := by decide +kernel
theorem dX12_touches_7 : decode cX12_touches 7 = .ok (.getfield 22, 3) := by decide +kernel
theorem dX12_touches_10 : decode cX12_touches 10 = .ok (.iload_n 2, 1) := by decide +kernel
theorem dX12_touches_11 : decode cX12_touches 11 = .ok (.laload, 1) := by decide +kernel
theorem dX12_touches_12 : decode cX12_touches 12 = .ok (.land, 1) := by decide +kernel
theorem dX12_touches_13 : decode cX12_touches 13 = .ok (.lconst 0, 1) := by decide +kernel
theorem dX12_touches_14 : decode cX12_touches 14 = .ok (.lcmp, 1) := by decide +kernel
theorem dX12_touches_15 : decode cX12_touches 15 = .ok (.ifCond .eq 20, 3) := by decide +kernel
theorem dX12_touches_18 : decode cX12_touches 18 = .ok (.aload_n 0, 1) := by decide +kernel
theorem dX12_touches_19 : decode cX12_touches 19 = .ok (.iload_n 1, 1) := by decide +kernel
theorem dX12_touches_20 : decode cX12_touches 20 = .ok (.invokevirtual 256, 3) := by decide +kernel
theorem dX12_touches_23 : decode cX12_touches 23 = .ok (.aload_n 0, 1) := by decide +kernel
theorem dX12_touches_24 : decode cX12_touches 24 = .ok (.iload_n 2, 1) := by decide +kernel
theorem dX12_touches_25 : decode cX12_touches 25 = .ok (.invokevirtual 256, 3) := by decide +kernel
theorem dX12_touches_28 : decode cX12_touches 28 = .ok (.if_icmp .ne 7, 3) := by decide +kernel
theorem dX12_touches_31 : decode cX12_touches 31 = .ok (.iconst 1, 1) := by decide +kernel
theorem dX12_touches_32 : decode cX12_touches 32 = .ok (.goto 4, 3) := by decide +kernel
theorem dX12_touches_35 : decode cX12_touches 35 = .ok (.iconst 0, 1) := by decide +kernel
theorem dX12_touches_36 : decode cX12_touches 36 = .ok (.ireturn, 1) := by decide +kernel
theorem dX12_layBeams_0 : decode cX12_layBeams 0 = .ok (.iconst 0, 1) := by decide +kernel
theorem dX12_layBeams_1 : decode cX12_layBeams 1 = .ok (.istore_n 1, 1) := by decide +kernel
theorem dX12_layBeams_2 : decode cX12_layBeams 2 = .ok (.iload_n 1, 1) := by decide +kernel
theorem dX12_layBeams_3 : decode cX12_layBeams 3 = .ok (.aload_n 0, 1) := by decide +kernel
theorem dX12_layBeams_4 : decode cX12_layBeams 4 = .ok (.invokevirtual 176, 3) := by decide +kernel
theorem dX12_layBeams_7 : decode cX12_layBeams 7 = .ok (.if_icmp .ge 33, 3) := by decide +kernel
theorem dX12_layBeams_10 : decode cX12_layBeams 10 = .ok (.aload_n 0, 1) := by decide +kernel
theorem dX12_layBeams_11 : decode cX12_layBeams 11 = .ok (.getfield 39, 3) := by decide +kernel
theorem dX12_layBeams_14 : decode cX12_layBeams 14 = .ok (.iload_n 1, 1) := by decide +kernel
theorem dX12_layBeams_15 : decode cX12_layBeams 15 = .ok (.aload_n 0, 1) := by decide +kernel
theorem dX12_layBeams_16 : decode cX12_layBeams 16 = .ok (.iload_n 1, 1) := by decide +kernel
theorem dX12_layBeams_17 : decode cX12_layBeams 17 = .ok (.iconst 4, 1) := by decide +kernel
theorem dX12_layBeams_18 : decode cX12_layBeams 18 = .ok (.invokevirtual 180, 3) := by decide +kernel
theorem dX12_layBeams_21 : decode cX12_layBeams 21 = .ok (.iastore, 1) := by decide +kernel
theorem dX12_layBeams_22 : decode cX12_layBeams 22 = .ok (.aload_n 0, 1) := by decide +kernel
theorem dX12_layBeams_23 : decode cX12_layBeams 23 = .ok (.getfield 42, 3) := by decide +kernel
theorem dX12_layBeams_26 : decode cX12_layBeams 26 = .ok (.iload_n 1, 1) := by decide +kernel
theorem dX12_layBeams_27 : decode cX12_layBeams 27 = .ok (.aload_n 0, 1) := by decide +kernel
theorem dX12_layBeams_28 : decode cX12_layBeams 28 = .ok (.iload_n 1, 1) := by decide +kernel
theorem dX12_layBeams_29 : decode cX12_layBeams 29 = .ok (.iconst 5, 1) := by decide +kernel
theorem dX12_layBeams_30 : decode cX12_layBeams 30 = .ok (.invokevirtual 180, 3) := by decide +kernel
theorem dX12_layBeams_33 : decode cX12_layBeams 33 = .ok (.iastore, 1) := by decide +kernel
theorem dX12_layBeams_34 : decode cX12_layBeams 34 = .ok (.iinc 1 1, 3) := by decide +kernel
theorem dX12_layBeams_37 : decode cX12_layBeams 37 = .ok (.goto (-35), 3) := by decide +kernel
theorem dX12_layBeams_40 : decode cX12_layBeams 40 = .ok (.return_, 1) := by decide +kernel
theorem dX12_reachBy_0 : decode cX12_reachBy 0 = .ok (.sipush 1000, 3) := by decide +kernel
theorem dX12_reachBy_3 : decode cX12_reachBy 3 = .ok (.iload_n 0, 1) := by decide +kernel
theorem dX12_reachBy_4 : decode cX12_reachBy 4 = .ok (.imul, 1) := by decide +kernel
theorem dX12_reachBy_5 : decode cX12_reachBy 5 = .ok (.bipush 10, 2) := by decide +kernel
theorem dX12_reachBy_7 : decode cX12_reachBy 7 = .ok (.iload_n 1, 1) := by decide +kernel
theorem dX12_reachBy_8 : decode cX12_reachBy 8 = .ok (.iload_n 2, 1) := by decide +kernel
theorem dX12_reachBy_9 : decode cX12_reachBy 9 = .ok (.imul, 1) := by decide +kernel
theorem dX12_reachBy_10 : decode cX12_reachBy 10 = .ok (.iadd, 1) := by decide +kernel
theorem dX12_reachBy_11 : decode cX12_reachBy 11 = .ok (.idiv, 1) := by decide +kernel
theorem dX12_reachBy_12 : decode cX12_reachBy 12 = .ok (.ireturn, 1) := by decide +kernel
theorem dX12_reachOf_0 : decode cX12_reachOf 0 = .ok (.aload_n 0, 1) := by decide +kernel
theorem dX12_reachOf_1 : decode cX12_reachOf 1 = .ok (.iload_n 1, 1) := by decide +kernel
theorem dX12_reachOf_2 : decode cX12_reachOf 2 = .ok (.iload_n 2, 1) := by decide +kernel
theorem dX12_reachOf_3 : decode cX12_reachOf 3 = .ok (.invokevirtual 259, 3) := by decide +kernel
theorem dX12_reachOf_6 : decode cX12_reachOf 6 = .ok (.ifCond .eq 34, 3) := by decide +kernel
theorem dX12_reachOf_9 : decode cX12_reachOf 9 = .ok (.aload_n 0, 1) := by decide +kernel
theorem dX12_reachOf_10 : decode cX12_reachOf 10 = .ok (.getfield 39, 3) := by decide +kernel
theorem dX12_reachOf_13 : decode cX12_reachOf 13 = .ok (.iload_n 1, 1) := by decide +kernel
theorem dX12_reachOf_14 : decode cX12_reachOf 14 = .ok (.iaload, 1) := by decide +kernel
theorem dX12_reachOf_15 : decode cX12_reachOf 15 = .ok (.aload_n 0, 1) := by decide +kernel
theorem dX12_reachOf_16 : decode cX12_reachOf 16 = .ok (.getfield 42, 3) := by decide +kernel
theorem dX12_reachOf_19 : decode cX12_reachOf 19 = .ok (.iload_n 1, 1) := by decide +kernel
theorem dX12_reachOf_20 : decode cX12_reachOf 20 = .ok (.iaload, 1) := by decide +kernel
theorem dX12_reachOf_21 : decode cX12_reachOf 21 = .ok (.aload_n 0, 1) := by decide +kernel
theorem dX12_reachOf_22 : decode cX12_reachOf 22 = .ok (.iload_n 1, 1) := by decide +kernel
theorem dX12_reachOf_23 : decode cX12_reachOf 23 = .ok (.invokevirtual 184, 3) := by decide +kernel
theorem dX12_reachOf_26 : decode cX12_reachOf 26 = .ok (.aload_n 0, 1) := by decide +kernel
theorem dX12_reachOf_27 : decode cX12_reachOf 27 = .ok (.iload_n 2, 1) := by decide +kernel
theorem dX12_reachOf_28 : decode cX12_reachOf 28 = .ok (.invokevirtual 184, 3) := by decide +kernel
theorem dX12_reachOf_31 : decode cX12_reachOf 31 = .ok (.invokestatic 262, 3) := by decide +kernel
theorem dX12_reachOf_34 : decode cX12_reachOf 34 = .ok (.invokestatic 265, 3) := by decide +kernel
theorem dX12_reachOf_37 : decode cX12_reachOf 37 = .ok (.goto 4, 3) := by decide +kernel
theorem dX12_reachOf_40 : decode cX12_reachOf 40 = .ok (.iconst 0, 1) := by decide +kernel
theorem dX12_reachOf_41 : decode cX12_reachOf 41 = .ok (.ireturn, 1) := by decide +kernel
theorem dX12_heardBy_0 : decode cX12_heardBy 0 = .ok (.iconst 0, 1) := by decide +kernel
theorem dX12_heardBy_1 : decode cX12_heardBy 1 = .ok (.istore_n 2, 1) := by decide +kernel
theorem dX12_heardBy_2 : decode cX12_heardBy 2 = .ok (.iconst 0, 1) := by decide +kernel
theorem dX12_heardBy_3 : decode cX12_heardBy 3 = .ok (.istore_n 3, 1) := by decide +kernel
theorem dX12_heardBy_4 : decode cX12_heardBy 4 = .ok (.iload_n 3, 1) := by decide +kernel
theorem dX12_heardBy_5 : decode cX12_heardBy 5 = .ok (.aload_n 0, 1) := by decide +kernel
theorem dX12_heardBy_6 : decode cX12_heardBy 6 = .ok (.invokevirtual 176, 3) := by decide +kernel
theorem dX12_heardBy_9 : decode cX12_heardBy 9 = .ok (.if_icmp .ge 31, 3) := by decide +kernel
theorem dX12_heardBy_12 : decode cX12_heardBy 12 = .ok (.iload_n 3, 1) := by decide +kernel
theorem dX12_heardBy_13 : decode cX12_heardBy 13 = .ok (.iload_n 1, 1) := by decide +kernel
theorem dX12_heardBy_14 : decode cX12_heardBy 14 = .ok (.if_icmp .eq 20, 3) := by decide +kernel
theorem dX12_heardBy_17 : decode cX12_heardBy 17 = .ok (.aload_n 0, 1) := by decide +kernel
theorem dX12_heardBy_18 : decode cX12_heardBy 18 = .ok (.iload_n 3, 1) := by decide +kernel
theorem dX12_heardBy_19 : decode cX12_heardBy 19 = .ok (.invokevirtual 253, 3) := by decide +kernel
theorem dX12_heardBy_22 : decode cX12_heardBy 22 = .ok (.ifCond .eq 12, 3) := by decide +kernel
theorem dX12_heardBy_25 : decode cX12_heardBy 25 = .ok (.iload_n 2, 1) := by decide +kernel
theorem dX12_heardBy_26 : decode cX12_heardBy 26 = .ok (.aload_n 0, 1) := by decide +kernel
theorem dX12_heardBy_27 : decode cX12_heardBy 27 = .ok (.iload_n 3, 1) := by decide +kernel
theorem dX12_heardBy_28 : decode cX12_heardBy 28 = .ok (.iload_n 1, 1) := by decide +kernel
theorem dX12_heardBy_29 : decode cX12_heardBy 29 = .ok (.invokevirtual 269, 3) := by decide +kernel
theorem dX12_heardBy_32 : decode cX12_heardBy 32 = .ok (.iadd, 1) := by decide +kernel
theorem dX12_heardBy_33 : decode cX12_heardBy 33 = .ok (.istore_n 2, 1) := by decide +kernel
theorem dX12_heardBy_34 : decode cX12_heardBy 34 = .ok (.iinc 3 1, 3) := by decide +kernel
theorem dX12_heardBy_37 : decode cX12_heardBy 37 = .ok (.goto (-33), 3) := by decide +kernel
theorem dX12_heardBy_40 : decode cX12_heardBy 40 = .ok (.iload_n 2, 1) := by decide +kernel
theorem dX12_heardBy_41 : decode cX12_heardBy 41 = .ok (.ireturn, 1) := by decide +kernel
theorem dX12_isInArc_0 : decode cX12_isInArc 0 = .ok (.aload_n 0, 1) := by decide +kernel
theorem dX12_isInArc_1 : decode cX12_isInArc 1 = .ok (.iload_n 1, 1) := by decide +kernel
theorem dX12_isInArc_2 : decode cX12_isInArc 2 = .ok (.iconst 1, 1) := by decide +kernel
theorem dX12_isInArc_3 : decode cX12_isInArc 3 = .ok (.invokevirtual 180, 3) := by decide +kernel
theorem dX12_isInArc_6 : decode cX12_isInArc 6 = .ok (.istore_n 3, 1) := by decide +kernel
theorem dX12_isInArc_7 : decode cX12_isInArc 7 = .ok (.aload_n 0, 1) := by decide +kernel
theorem dX12_isInArc_8 : decode cX12_isInArc 8 = .ok (.iload_n 1, 1) := by decide +kernel
theorem dX12_isInArc_9 : decode cX12_isInArc 9 = .ok (.iconst 2, 1) := by decide +kernel
theorem dX12_isInArc_10 : decode cX12_isInArc 10 = .ok (.invokevirtual 180, 3) := by decide +kernel
theorem dX12_isInArc_13 : decode cX12_isInArc 13 = .ok (.istore 4, 2) := by decide +kernel
theorem dX12_isInArc_15 : decode cX12_isInArc 15 = .ok (.iload_n 3, 1) := by decide +kernel
theorem dX12_isInArc_16 : decode cX12_isInArc 16 = .ok (.iload 4, 2) := by decide +kernel
theorem dX12_isInArc_18 : decode cX12_isInArc 18 = .ok (.if_icmp .gt 13, 3) := by decide +kernel
theorem dX12_isInArc_21 : decode cX12_isInArc 21 = .ok (.iload_n 2, 1) := by decide +kernel
theorem dX12_isInArc_22 : decode cX12_isInArc 22 = .ok (.iload_n 3, 1) := by decide +kernel
theorem dX12_isInArc_23 : decode cX12_isInArc 23 = .ok (.iload 4, 2) := by decide +kernel
theorem dX12_isInArc_25 : decode cX12_isInArc 25 = .ok (.invokestatic 162, 3) := by decide +kernel
theorem dX12_isInArc_28 : decode cX12_isInArc 28 = .ok (.goto 19, 3) := by decide +kernel
theorem dX12_isInArc_31 : decode cX12_isInArc 31 = .ok (.iload_n 2, 1) := by decide +kernel
theorem dX12_isInArc_32 : decode cX12_isInArc 32 = .ok (.iload_n 3, 1) := by decide +kernel
theorem dX12_isInArc_33 : decode cX12_isInArc 33 = .ok (.if_icmp .ge 9, 3) := by decide +kernel
theorem dX12_isInArc_36 : decode cX12_isInArc 36 = .ok (.iload_n 2, 1) := by decide +kernel
theorem dX12_isInArc_37 : decode cX12_isInArc 37 = .ok (.iload 4, 2) := by decide +kernel
theorem dX12_isInArc_39 : decode cX12_isInArc 39 = .ok (.if_icmp .gt 7, 3) := by decide +kernel
theorem dX12_isInArc_42 : decode cX12_isInArc 42 = .ok (.iconst 1, 1) := by decide +kernel
theorem dX12_isInArc_43 : decode cX12_isInArc 43 = .ok (.goto 4, 3) := by decide +kernel
theorem dX12_isInArc_46 : decode cX12_isInArc 46 = .ok (.iconst 0, 1) := by decide +kernel
theorem dX12_isInArc_47 : decode cX12_isInArc 47 = .ok (.ireturn, 1) := by decide +kernel
theorem dX12_wrongOf_0 : decode cX12_wrongOf 0 = .ok (.aload_n 0, 1) := by decide +kernel
theorem dX12_wrongOf_1 : decode cX12_wrongOf 1 = .ok (.iload_n 1, 1) := by decide +kernel
theorem dX12_wrongOf_2 : decode cX12_wrongOf 2 = .ok (.aload_n 0, 1) := by decide +kernel
theorem dX12_wrongOf_3 : decode cX12_wrongOf 3 = .ok (.iload_n 1, 1) := by decide +kernel
theorem dX12_wrongOf_4 : decode cX12_wrongOf 4 = .ok (.invokevirtual 184, 3) := by decide +kernel
theorem dX12_wrongOf_7 : decode cX12_wrongOf 7 = .ok (.invokevirtual 272, 3) := by decide +kernel
theorem dX12_wrongOf_10 : decode cX12_wrongOf 10 = .ok (.ifCond .ne 5, 3) := by decide +kernel
theorem dX12_wrongOf_13 : decode cX12_wrongOf 13 = .ok (.iconst 1, 1) := by decide +kernel
theorem dX12_wrongOf_14 : decode cX12_wrongOf 14 = .ok (.ireturn, 1) := by decide +kernel
theorem dX12_wrongOf_15 : decode cX12_wrongOf 15 = .ok (.aload_n 0, 1) := by decide +kernel
theorem dX12_wrongOf_16 : decode cX12_wrongOf 16 = .ok (.iload_n 1, 1) := by decide +kernel
theorem dX12_wrongOf_17 : decode cX12_wrongOf 17 = .ok (.iconst 3, 1) := by decide +kernel
theorem dX12_wrongOf_18 : decode cX12_wrongOf 18 = .ok (.invokevirtual 180, 3) := by decide +kernel
theorem dX12_wrongOf_21 : decode cX12_wrongOf 21 = .ok (.aload_n 0, 1) := by decide +kernel
theorem dX12_wrongOf_22 : decode cX12_wrongOf 22 = .ok (.iload_n 1, 1) := by decide +kernel
theorem dX12_wrongOf_23 : decode cX12_wrongOf 23 = .ok (.invokevirtual 256, 3) := by decide +kernel
theorem dX12_wrongOf_26 : decode cX12_wrongOf 26 = .ok (.invokestatic 204, 3) := by decide +kernel
theorem dX12_wrongOf_29 : decode cX12_wrongOf 29 = .ok (.ifCond .ne 5, 3) := by decide +kernel
theorem dX12_wrongOf_32 : decode cX12_wrongOf 32 = .ok (.iconst 2, 1) := by decide +kernel
theorem dX12_wrongOf_33 : decode cX12_wrongOf 33 = .ok (.ireturn, 1) := by decide +kernel
theorem dX12_wrongOf_34 : decode cX12_wrongOf 34 = .ok (.iconst 0, 1) := by decide +kernel
theorem dX12_wrongOf_35 : decode cX12_wrongOf 35 = .ok (.istore_n 2, 1) := by decide +kernel
theorem dX12_wrongOf_36 : decode cX12_wrongOf 36 = .ok (.iload_n 2, 1) := by decide +kernel
theorem dX12_wrongOf_37 : decode cX12_wrongOf 37 = .ok (.aload_n 0, 1) := by decide +kernel
theorem dX12_wrongOf_38 : decode cX12_wrongOf 38 = .ok (.invokevirtual 176, 3) := by decide +kernel
theorem dX12_wrongOf_41 : decode cX12_wrongOf 41 = .ok (.if_icmp .ge 55, 3) := by decide +kernel
theorem dX12_wrongOf_44 : decode cX12_wrongOf 44 = .ok (.iload_n 2, 1) := by decide +kernel
theorem dX12_wrongOf_45 : decode cX12_wrongOf 45 = .ok (.iload_n 1, 1) := by decide +kernel
theorem dX12_wrongOf_46 : decode cX12_wrongOf 46 = .ok (.if_icmp .eq 44, 3) := by decide +kernel
theorem dX12_wrongOf_49 : decode cX12_wrongOf 49 = .ok (.aload_n 0, 1) := by decide +kernel
theorem dX12_wrongOf_50 : decode cX12_wrongOf 50 = .ok (.iload_n 2, 1) := by decide +kernel
theorem dX12_wrongOf_51 : decode cX12_wrongOf 51 = .ok (.invokevirtual 253, 3) := by decide +kernel
theorem dX12_wrongOf_54 : decode cX12_wrongOf 54 = .ok (.ifCond .eq 36, 3) := by decide +kernel
theorem dX12_wrongOf_57 : decode cX12_wrongOf 57 = .ok (.aload_n 0, 1) := by decide +kernel
theorem dX12_wrongOf_58 : decode cX12_wrongOf 58 = .ok (.iload_n 1, 1) := by decide +kernel
theorem dX12_wrongOf_59 : decode cX12_wrongOf 59 = .ok (.iload_n 2, 1) := by decide +kernel
theorem dX12_wrongOf_60 : decode cX12_wrongOf 60 = .ok (.invokevirtual 259, 3) := by decide +kernel
theorem dX12_wrongOf_63 : decode cX12_wrongOf 63 = .ok (.ifCond .eq 27, 3) := by decide +kernel
theorem dX12_wrongOf_66 : decode cX12_wrongOf 66 = .ok (.aload_n 0, 1) := by decide +kernel
theorem dX12_wrongOf_67 : decode cX12_wrongOf 67 = .ok (.iload_n 1, 1) := by decide +kernel
theorem dX12_wrongOf_68 : decode cX12_wrongOf 68 = .ok (.invokevirtual 184, 3) := by decide +kernel
theorem dX12_wrongOf_71 : decode cX12_wrongOf 71 = .ok (.aload_n 0, 1) := by decide +kernel
theorem dX12_wrongOf_72 : decode cX12_wrongOf 72 = .ok (.iload_n 2, 1) := by decide +kernel
theorem dX12_wrongOf_73 : decode cX12_wrongOf 73 = .ok (.invokevirtual 184, 3) := by decide +kernel
theorem dX12_wrongOf_76 : decode cX12_wrongOf 76 = .ok (.invokestatic 262, 3) := by decide +kernel
theorem dX12_wrongOf_79 : decode cX12_wrongOf 79 = .ok (.aload_n 0, 1) := by decide +kernel
theorem dX12_wrongOf_80 : decode cX12_wrongOf 80 = .ok (.getfield 13, 3) := by decide +kernel
theorem dX12_wrongOf_83 : decode cX12_wrongOf 83 = .ok (.iconst 3, 1) := by decide +kernel
theorem dX12_wrongOf_84 : decode cX12_wrongOf 84 = .ok (.iaload, 1) := by decide +kernel
theorem dX12_wrongOf_85 : decode cX12_wrongOf 85 = .ok (.if_icmp .ge 5, 3) := by decide +kernel
theorem dX12_wrongOf_88 : decode cX12_wrongOf 88 = .ok (.iconst 3, 1) := by decide +kernel
theorem dX12_wrongOf_89 : decode cX12_wrongOf 89 = .ok (.ireturn, 1) := by decide +kernel
theorem dX12_wrongOf_90 : decode cX12_wrongOf 90 = .ok (.iinc 2 1, 3) := by decide +kernel
theorem dX12_wrongOf_93 : decode cX12_wrongOf 93 = .ok (.goto (-57), 3) := by decide +kernel
theorem dX12_wrongOf_96 : decode cX12_wrongOf 96 = .ok (.aload_n 0, 1) := by decide +kernel
theorem dX12_wrongOf_97 : decode cX12_wrongOf 97 = .ok (.iload_n 1, 1) := by decide +kernel
theorem dX12_wrongOf_98 : decode cX12_wrongOf 98 = .ok (.invokevirtual 275, 3) := by decide +kernel
theorem dX12_wrongOf_101 : decode cX12_wrongOf 101 = .ok (.aload_n 0, 1) := by decide +kernel
theorem dX12_wrongOf_102 : decode cX12_wrongOf 102 = .ok (.iload_n 1, 1) := by decide +kernel
theorem dX12_wrongOf_103 : decode cX12_wrongOf 103 = .ok (.bipush 6, 2) := by decide +kernel
theorem dX12_wrongOf_105 : decode cX12_wrongOf 105 = .ok (.invokevirtual 180, 3) := by decide +kernel
theorem dX12_wrongOf_108 : decode cX12_wrongOf 108 = .ok (.if_icmp .le 7, 3) := by decide +kernel
theorem dX12_wrongOf_111 : decode cX12_wrongOf 111 = .ok (.iconst 4, 1) := by decide +kernel
theorem dX12_wrongOf_112 : decode cX12_wrongOf 112 = .ok (.goto 4, 3) := by decide +kernel
theorem dX12_wrongOf_115 : decode cX12_wrongOf 115 = .ok (.iconst 0, 1) := by decide +kernel
theorem dX12_wrongOf_116 : decode cX12_wrongOf 116 = .ok (.ireturn, 1) := by decide +kernel
theorem dX12_firstWrong_0 : decode cX12_firstWrong 0 = .ok (.iconst 0, 1) := by decide +kernel
theorem dX12_firstWrong_1 : decode cX12_firstWrong 1 = .ok (.istore_n 1, 1) := by decide +kernel
theorem dX12_firstWrong_2 : decode cX12_firstWrong 2 = .ok (.iload_n 1, 1) := by decide +kernel
theorem dX12_firstWrong_3 : decode cX12_firstWrong 3 = .ok (.aload_n 0, 1) := by decide +kernel
theorem dX12_firstWrong_4 : decode cX12_firstWrong 4 = .ok (.invokevirtual 176, 3) := by decide +kernel
theorem dX12_firstWrong_7 : decode cX12_firstWrong 7 = .ok (.if_icmp .ge 35, 3) := by decide +kernel
theorem dX12_firstWrong_10 : decode cX12_firstWrong 10 = .ok (.aload_n 0, 1) := by decide +kernel
theorem dX12_firstWrong_11 : decode cX12_firstWrong 11 = .ok (.iload_n 1, 1) := by decide +kernel
theorem dX12_firstWrong_12 : decode cX12_firstWrong 12 = .ok (.invokevirtual 253, 3) := by decide +kernel
theorem dX12_firstWrong_15 : decode cX12_firstWrong 15 = .ok (.ifCond .eq 21, 3) := by decide +kernel
theorem dX12_firstWrong_18 : decode cX12_firstWrong 18 = .ok (.aload_n 0, 1) := by decide +kernel
theorem dX12_firstWrong_19 : decode cX12_firstWrong 19 = .ok (.iload_n 1, 1) := by decide +kernel
theorem dX12_firstWrong_20 : decode cX12_firstWrong 20 = .ok (.invokevirtual 278, 3) := by decide +kernel
theorem dX12_firstWrong_23 : decode cX12_firstWrong 23 = .ok (.ifCond .ne 13, 3) := by decide +kernel
theorem dX12_firstWrong_26 : decode cX12_firstWrong 26 = .ok (.aload_n 0, 1) := by decide +kernel
theorem dX12_firstWrong_27 : decode cX12_firstWrong 27 = .ok (.iload_n 1, 1) := by decide +kernel
theorem dX12_firstWrong_28 : decode cX12_firstWrong 28 = .ok (.invokevirtual 281, 3) := by decide +kernel
theorem dX12_firstWrong_31 : decode cX12_firstWrong 31 = .ok (.ifCond .eq 5, 3) := by decide +kernel
theorem dX12_firstWrong_34 : decode cX12_firstWrong 34 = .ok (.iload_n 1, 1) := by decide +kernel
theorem dX12_firstWrong_35 : decode cX12_firstWrong 35 = .ok (.ireturn, 1) := by decide +kernel
theorem dX12_firstWrong_36 : decode cX12_firstWrong 36 = .ok (.iinc 1 1, 3) := by decide +kernel
theorem dX12_firstWrong_39 : decode cX12_firstWrong 39 = .ok (.goto (-37), 3) := by decide +kernel
theorem dX12_firstWrong_42 : decode cX12_firstWrong 42 = .ok (.iconst (-1), 1) := by decide +kernel
theorem dX12_firstWrong_43 : decode cX12_firstWrong 43 = .ok (.ireturn, 1) := by decide +kernel
theorem dX12_reach_0 : decode cX12_reach 0 = .ok (.aload_n 0, 1) := by decide +kernel
theorem dX12_reach_1 : decode cX12_reach 1 = .ok (.iconst 0, 1) := by decide +kernel
theorem dX12_reach_2 : decode cX12_reach 2 = .ok (.putfield 97, 3) := by decide +kernel
theorem dX12_reach_5 : decode cX12_reach 5 = .ok (.aload_n 0, 1) := by decide +kernel
theorem dX12_reach_6 : decode cX12_reach 6 = .ok (.invokevirtual 234, 3) := by decide +kernel
theorem dX12_reach_9 : decode cX12_reach 9 = .ok (.aload_n 0, 1) := by decide +kernel
theorem dX12_reach_10 : decode cX12_reach 10 = .ok (.iload_n 1, 1) := by decide +kernel
theorem dX12_reach_11 : decode cX12_reach 11 = .ok (.invokevirtual 247, 3) := by decide +kernel
theorem dX12_reach_14 : decode cX12_reach 14 = .ok (.ifCond .eq 32, 3) := by decide +kernel
theorem dX12_reach_17 : decode cX12_reach 17 = .ok (.aload_n 0, 1) := by decide +kernel
theorem dX12_reach_18 : decode cX12_reach 18 = .ok (.iload_n 2, 1) := by decide +kernel
theorem dX12_reach_19 : decode cX12_reach 19 = .ok (.invokevirtual 247, 3) := by decide +kernel
theorem dX12_reach_22 : decode cX12_reach 22 = .ok (.ifCond .eq 24, 3) := by decide +kernel
theorem dX12_reach_25 : decode cX12_reach 25 = .ok (.iload_n 1, 1) := by decide +kernel
theorem dX12_reach_26 : decode cX12_reach 26 = .ok (.iload_n 2, 1) := by decide +kernel
theorem dX12_reach_27 : decode cX12_reach 27 = .ok (.if_icmp .eq 19, 3) := by decide +kernel
theorem dX12_reach_30 : decode cX12_reach 30 = .ok (.aload_n 0, 1) := by decide +kernel
theorem dX12_reach_31 : decode cX12_reach 31 = .ok (.iload_n 1, 1) := by decide +kernel
theorem dX12_reach_32 : decode cX12_reach 32 = .ok (.invokevirtual 253, 3) := by decide +kernel
theorem dX12_reach_35 : decode cX12_reach 35 = .ok (.ifCond .eq 11, 3) := by decide +kernel
theorem dX12_reach_38 : decode cX12_reach 38 = .ok (.aload_n 0, 1) := by decide +kernel
theorem dX12_reach_39 : decode cX12_reach 39 = .ok (.iload_n 2, 1) := by decide +kernel
theorem dX12_reach_40 : decode cX12_reach 40 = .ok (.invokevirtual 253, 3) := by decide +kernel
theorem dX12_reach_43 : decode cX12_reach 43 = .ok (.ifCond .ne 5, 3) := by decide +kernel
theorem dX12_reach_46 : decode cX12_reach 46 = .ok (.iconst (-1), 1) := by decide +kernel
theorem dX12_reach_47 : decode cX12_reach 47 = .ok (.ireturn, 1) := by decide +kernel
theorem dX12_reach_48 : decode cX12_reach 48 = .ok (.aload_n 0, 1) := by decide +kernel
theorem dX12_reach_49 : decode cX12_reach 49 = .ok (.invokevirtual 284, 3) := by decide +kernel
theorem dX12_reach_52 : decode cX12_reach 52 = .ok (.aload_n 0, 1) := by decide +kernel
theorem dX12_reach_53 : decode cX12_reach 53 = .ok (.iload_n 1, 1) := by decide +kernel
theorem dX12_reach_54 : decode cX12_reach 54 = .ok (.iload_n 2, 1) := by decide +kernel
theorem dX12_reach_55 : decode cX12_reach 55 = .ok (.invokevirtual 269, 3) := by decide +kernel
theorem dX12_reach_58 : decode cX12_reach 58 = .ok (.ireturn, 1) := by decide +kernel
theorem dX12_heard_0 : decode cX12_heard 0 = .ok (.aload_n 0, 1) := by decide +kernel
theorem dX12_heard_1 : decode cX12_heard 1 = .ok (.iconst 0, 1) := by decide +kernel
theorem dX12_heard_2 : decode cX12_heard 2 = .ok (.putfield 97, 3) := by decide +kernel
theorem dX12_heard_5 : decode cX12_heard 5 = .ok (.aload_n 0, 1) := by decide +kernel
theorem dX12_heard_6 : decode cX12_heard 6 = .ok (.invokevirtual 234, 3) := by decide +kernel
theorem dX12_heard_9 : decode cX12_heard 9 = .ok (.aload_n 0, 1) := by decide +kernel
theorem dX12_heard_10 : decode cX12_heard 10 = .ok (.iload_n 1, 1) := by decide +kernel
theorem dX12_heard_11 : decode cX12_heard 11 = .ok (.invokevirtual 247, 3) := by decide +kernel
theorem dX12_heard_14 : decode cX12_heard 14 = .ok (.ifCond .eq 11, 3) := by decide +kernel
theorem dX12_heard_17 : decode cX12_heard 17 = .ok (.aload_n 0, 1) := by decide +kernel
theorem dX12_heard_18 : decode cX12_heard 18 = .ok (.iload_n 1, 1) := by decide +kernel
theorem dX12_heard_19 : decode cX12_heard 19 = .ok (.invokevirtual 253, 3) := by decide +kernel
theorem dX12_heard_22 : decode cX12_heard 22 = .ok (.ifCond .ne 5, 3) := by decide +kernel
theorem dX12_heard_25 : decode cX12_heard 25 = .ok (.iconst (-1), 1) := by decide +kernel
theorem dX12_heard_26 : decode cX12_heard 26 = .ok (.ireturn, 1) := by decide +kernel
theorem dX12_heard_27 : decode cX12_heard 27 = .ok (.aload_n 0, 1) := by decide +kernel
theorem dX12_heard_28 : decode cX12_heard 28 = .ok (.invokevirtual 284, 3) := by decide +kernel
theorem dX12_heard_31 : decode cX12_heard 31 = .ok (.aload_n 0, 1) := by decide +kernel
theorem dX12_heard_32 : decode cX12_heard 32 = .ok (.iload_n 1, 1) := by decide +kernel
theorem dX12_heard_33 : decode cX12_heard 33 = .ok (.invokevirtual 275, 3) := by decide +kernel
theorem dX12_heard_36 : decode cX12_heard 36 = .ok (.ireturn, 1) := by decide +kernel
theorem dX12_wrong_0 : decode cX12_wrong 0 = .ok (.aload_n 0, 1) := by decide +kernel
theorem dX12_wrong_1 : decode cX12_wrong 1 = .ok (.iconst 0, 1) := by decide +kernel
theorem dX12_wrong_2 : decode cX12_wrong 2 = .ok (.putfield 97, 3) := by decide +kernel
theorem dX12_wrong_5 : decode cX12_wrong 5 = .ok (.aload_n 0, 1) := by decide +kernel
theorem dX12_wrong_6 : decode cX12_wrong 6 = .ok (.invokevirtual 234, 3) := by decide +kernel
theorem dX12_wrong_9 : decode cX12_wrong 9 = .ok (.aload_n 0, 1) := by decide +kernel
theorem dX12_wrong_10 : decode cX12_wrong 10 = .ok (.iload_n 1, 1) := by decide +kernel
theorem dX12_wrong_11 : decode cX12_wrong 11 = .ok (.invokevirtual 247, 3) := by decide +kernel
theorem dX12_wrong_14 : decode cX12_wrong 14 = .ok (.ifCond .eq 19, 3) := by decide +kernel
theorem dX12_wrong_17 : decode cX12_wrong 17 = .ok (.aload_n 0, 1) := by decide +kernel
theorem dX12_wrong_18 : decode cX12_wrong 18 = .ok (.iload_n 1, 1) := by decide +kernel
theorem dX12_wrong_19 : decode cX12_wrong 19 = .ok (.invokevirtual 253, 3) := by decide +kernel
theorem dX12_wrong_22 : decode cX12_wrong 22 = .ok (.ifCond .eq 11, 3) := by decide +kernel
theorem dX12_wrong_25 : decode cX12_wrong 25 = .ok (.aload_n 0, 1) := by decide +kernel
theorem dX12_wrong_26 : decode cX12_wrong 26 = .ok (.iload_n 1, 1) := by decide +kernel
theorem dX12_wrong_27 : decode cX12_wrong 27 = .ok (.invokevirtual 278, 3) := by decide +kernel
theorem dX12_wrong_30 : decode cX12_wrong 30 = .ok (.ifCond .eq 5, 3) := by decide +kernel
theorem dX12_wrong_33 : decode cX12_wrong 33 = .ok (.iconst (-1), 1) := by decide +kernel
theorem dX12_wrong_34 : decode cX12_wrong 34 = .ok (.ireturn, 1) := by decide +kernel
theorem dX12_wrong_35 : decode cX12_wrong 35 = .ok (.aload_n 0, 1) := by decide +kernel
theorem dX12_wrong_36 : decode cX12_wrong 36 = .ok (.invokevirtual 284, 3) := by decide +kernel
theorem dX12_wrong_39 : decode cX12_wrong 39 = .ok (.aload_n 0, 1) := by decide +kernel
theorem dX12_wrong_40 : decode cX12_wrong 40 = .ok (.iload_n 1, 1) := by decide +kernel
theorem dX12_wrong_41 : decode cX12_wrong 41 = .ok (.invokevirtual 281, 3) := by decide +kernel
theorem dX12_wrong_44 : decode cX12_wrong 44 = .ok (.ireturn, 1) := by decide +kernel
theorem dX12_judge_0 : decode cX12_judge 0 = .ok (.aload_n 0, 1) := by decide +kernel
theorem dX12_judge_1 : decode cX12_judge 1 = .ok (.iconst 0, 1) := by decide +kernel
theorem dX12_judge_2 : decode cX12_judge 2 = .ok (.putfield 97, 3) := by decide +kernel
theorem dX12_judge_5 : decode cX12_judge 5 = .ok (.aload_n 0, 1) := by decide +kernel
theorem dX12_judge_6 : decode cX12_judge 6 = .ok (.invokevirtual 234, 3) := by decide +kernel
theorem dX12_judge_9 : decode cX12_judge 9 = .ok (.aload_n 0, 1) := by decide +kernel
theorem dX12_judge_10 : decode cX12_judge 10 = .ok (.invokevirtual 284, 3) := by decide +kernel
theorem dX12_judge_13 : decode cX12_judge 13 = .ok (.aload_n 0, 1) := by decide +kernel
theorem dX12_judge_14 : decode cX12_judge 14 = .ok (.invokevirtual 287, 3) := by decide +kernel
theorem dX12_judge_17 : decode cX12_judge 17 = .ok (.ireturn, 1) := by decide +kernel
theorem dX12_bears_0 : decode cX12_bears 0 = .ok (.aload_n 0, 1) := by decide +kernel
theorem dX12_bears_1 : decode cX12_bears 1 = .ok (.iload_n 1, 1) := by decide +kernel
theorem dX12_bears_2 : decode cX12_bears 2 = .ok (.iconst 4, 1) := by decide +kernel
theorem dX12_bears_3 : decode cX12_bears 3 = .ok (.invokevirtual 180, 3) := by decide +kernel
theorem dX12_bears_6 : decode cX12_bears 6 = .ok (.aload_n 0, 1) := by decide +kernel
theorem dX12_bears_7 : decode cX12_bears 7 = .ok (.iload_n 1, 1) := by decide +kernel
theorem dX12_bears_8 : decode cX12_bears 8 = .ok (.iconst 5, 1) := by decide +kernel
theorem dX12_bears_9 : decode cX12_bears 9 = .ok (.invokevirtual 180, 3) := by decide +kernel
theorem dX12_bears_12 : decode cX12_bears 12 = .ok (.iload_n 3, 1) := by decide +kernel
theorem dX12_bears_13 : decode cX12_bears 13 = .ok (.invokestatic 265, 3) := by decide +kernel
theorem dX12_bears_16 : decode cX12_bears 16 = .ok (.aload_n 0, 1) := by decide +kernel
theorem dX12_bears_17 : decode cX12_bears 17 = .ok (.iload_n 2, 1) := by decide +kernel
theorem dX12_bears_18 : decode cX12_bears 18 = .ok (.bipush 6, 2) := by decide +kernel
theorem dX12_bears_20 : decode cX12_bears 20 = .ok (.invokevirtual 180, 3) := by decide +kernel
theorem dX12_bears_23 : decode cX12_bears 23 = .ok (.if_icmp .gt 7, 3) := by decide +kernel
theorem dX12_bears_26 : decode cX12_bears 26 = .ok (.iconst 1, 1) := by decide +kernel
theorem dX12_bears_27 : decode cX12_bears 27 = .ok (.goto 4, 3) := by decide +kernel
theorem dX12_bears_30 : decode cX12_bears 30 = .ok (.iconst 0, 1) := by decide +kernel
theorem dX12_bears_31 : decode cX12_bears 31 = .ok (.ireturn, 1) := by decide +kernel
theorem dX12_needOf_0 : decode cX12_needOf 0 = .ok (.aload_n 0, 1) := by decide +kernel
theorem dX12_needOf_1 : decode cX12_needOf 1 = .ok (.getfield 22, 3) := by decide +kernel
theorem dX12_needOf_4 : decode cX12_needOf 4 = .ok (.iload_n 1, 1) := by decide +kernel
theorem dX12_needOf_5 : decode cX12_needOf 5 = .ok (.laload, 1) := by decide +kernel
theorem dX12_needOf_6 : decode cX12_needOf 6 = .ok (.aload_n 0, 1) := by decide +kernel
theorem dX12_needOf_7 : decode cX12_needOf 7 = .ok (.getfield 22, 3) := by decide +kernel
theorem dX12_needOf_10 : decode cX12_needOf 10 = .ok (.iload_n 2, 1) := by decide +kernel
theorem dX12_needOf_11 : decode cX12_needOf 11 = .ok (.laload, 1) := by decide +kernel
theorem dX12_needOf_12 : decode cX12_needOf 12 = .ok (.land, 1) := by decide +kernel
theorem dX12_needOf_13 : decode cX12_needOf 13 = .ok (.lconst 0, 1) := by decide +kernel
theorem dX12_needOf_14 : decode cX12_needOf 14 = .ok (.lcmp, 1) := by decide +kernel
theorem dX12_needOf_15 : decode cX12_needOf 15 = .ok (.ifCond .ne 5, 3) := by decide +kernel
theorem dX12_needOf_18 : decode cX12_needOf 18 = .ok (.iconst 0, 1) := by decide +kernel
theorem dX12_needOf_19 : decode cX12_needOf 19 = .ok (.ireturn, 1) := by decide +kernel
theorem dX12_needOf_20 : decode cX12_needOf 20 = .ok (.aload_n 0, 1) := by decide +kernel
theorem dX12_needOf_21 : decode cX12_needOf 21 = .ok (.getfield 13, 3) := by decide +kernel
theorem dX12_needOf_24 : decode cX12_needOf 24 = .ok (.iconst 3, 1) := by decide +kernel
theorem dX12_needOf_25 : decode cX12_needOf 25 = .ok (.iaload, 1) := by decide +kernel
theorem dX12_needOf_26 : decode cX12_needOf 26 = .ok (.istore_n 3, 1) := by decide +kernel
theorem dX12_needOf_27 : decode cX12_needOf 27 = .ok (.iload_n 3, 1) := by decide +kernel
theorem dX12_needOf_28 : decode cX12_needOf 28 = .ok (.sipush 1800, 3) := by decide +kernel
theorem dX12_needOf_31 : decode cX12_needOf 31 = .ok (.if_icmp .gt 29, 3) := by decide +kernel
theorem dX12_needOf_34 : decode cX12_needOf 34 = .ok (.aload_n 0, 1) := by decide +kernel
theorem dX12_needOf_35 : decode cX12_needOf 35 = .ok (.iload_n 1, 1) := by decide +kernel
theorem dX12_needOf_36 : decode cX12_needOf 36 = .ok (.iload_n 2, 1) := by decide +kernel
theorem dX12_needOf_37 : decode cX12_needOf 37 = .ok (.iload_n 3, 1) := by decide +kernel
theorem dX12_needOf_38 : decode cX12_needOf 38 = .ok (.invokevirtual 290, 3) := by decide +kernel
theorem dX12_needOf_41 : decode cX12_needOf 41 = .ok (.ifCond .eq 13, 3) := by decide +kernel
theorem dX12_needOf_44 : decode cX12_needOf 44 = .ok (.aload_n 0, 1) := by decide +kernel
theorem dX12_needOf_45 : decode cX12_needOf 45 = .ok (.iload_n 2, 1) := by decide +kernel
theorem dX12_needOf_46 : decode cX12_needOf 46 = .ok (.iload_n 1, 1) := by decide +kernel
theorem dX12_needOf_47 : decode cX12_needOf 47 = .ok (.iload_n 3, 1) := by decide +kernel
theorem dX12_needOf_48 : decode cX12_needOf 48 = .ok (.invokevirtual 290, 3) := by decide +kernel
theorem dX12_needOf_51 : decode cX12_needOf 51 = .ok (.ifCond .ne 9, 3) := by decide +kernel
theorem dX12_needOf_54 : decode cX12_needOf 54 = .ok (.iinc 3 1, 3) := by decide +kernel
theorem dX12_needOf_57 : decode cX12_needOf 57 = .ok (.goto (-30), 3) := by decide +kernel
theorem dX12_needOf_60 : decode cX12_needOf 60 = .ok (.iload_n 3, 1) := by decide +kernel
theorem dX12_needOf_61 : decode cX12_needOf 61 = .ok (.sipush 1800, 3) := by decide +kernel
theorem dX12_needOf_64 : decode cX12_needOf 64 = .ok (.if_icmp .le 7, 3) := by decide +kernel
theorem dX12_needOf_67 : decode cX12_needOf 67 = .ok (.iconst (-1), 1) := by decide +kernel
theorem dX12_needOf_68 : decode cX12_needOf 68 = .ok (.goto 4, 3) := by decide +kernel
theorem dX12_needOf_71 : decode cX12_needOf 71 = .ok (.iload_n 3, 1) := by decide +kernel
theorem dX12_needOf_72 : decode cX12_needOf 72 = .ok (.ireturn, 1) := by decide +kernel
theorem dX12_need_0 : decode cX12_need 0 = .ok (.aload_n 0, 1) := by decide +kernel
theorem dX12_need_1 : decode cX12_need 1 = .ok (.iconst 0, 1) := by decide +kernel
theorem dX12_need_2 : decode cX12_need 2 = .ok (.putfield 97, 3) := by decide +kernel
theorem dX12_need_5 : decode cX12_need 5 = .ok (.aload_n 0, 1) := by decide +kernel
theorem dX12_need_6 : decode cX12_need 6 = .ok (.invokevirtual 234, 3) := by decide +kernel
theorem dX12_need_9 : decode cX12_need 9 = .ok (.aload_n 0, 1) := by decide +kernel
theorem dX12_need_10 : decode cX12_need 10 = .ok (.iload_n 1, 1) := by decide +kernel
theorem dX12_need_11 : decode cX12_need 11 = .ok (.invokevirtual 247, 3) := by decide +kernel
theorem dX12_need_14 : decode cX12_need 14 = .ok (.ifCond .eq 25, 3) := by decide +kernel
theorem dX12_need_17 : decode cX12_need 17 = .ok (.aload_n 0, 1) := by decide +kernel
theorem dX12_need_18 : decode cX12_need 18 = .ok (.iload_n 2, 1) := by decide +kernel
theorem dX12_need_19 : decode cX12_need 19 = .ok (.invokevirtual 247, 3) := by decide +kernel
theorem dX12_need_22 : decode cX12_need 22 = .ok (.ifCond .eq 17, 3) := by decide +kernel
theorem dX12_need_25 : decode cX12_need 25 = .ok (.iload_n 1, 1) := by decide +kernel
theorem dX12_need_26 : decode cX12_need 26 = .ok (.iload_n 2, 1) := by decide +kernel
theorem dX12_need_27 : decode cX12_need 27 = .ok (.if_icmp .eq 12, 3) := by decide +kernel
theorem dX12_need_30 : decode cX12_need 30 = .ok (.aload_n 0, 1) := by decide +kernel
theorem dX12_need_31 : decode cX12_need 31 = .ok (.iload_n 1, 1) := by decide +kernel
theorem dX12_need_32 : decode cX12_need 32 = .ok (.iload_n 2, 1) := by decide +kernel
theorem dX12_need_33 : decode cX12_need 33 = .ok (.invokevirtual 293, 3) := by decide +kernel
theorem dX12_need_36 : decode cX12_need 36 = .ok (.goto 4, 3) := by decide +kernel
theorem dX12_need_39 : decode cX12_need 39 = .ok (.iconst (-1), 1) := by decide +kernel
theorem dX12_need_40 : decode cX12_need 40 = .ok (.ireturn, 1) := by decide +kernel
theorem dX12_takeRow_0 : decode cX12_takeRow 0 = .ok (.aload_n 0, 1) := by decide +kernel
theorem dX12_takeRow_1 : decode cX12_takeRow 1 = .ok (.invokevirtual 234, 3) := by decide +kernel
theorem dX12_takeRow_4 : decode cX12_takeRow 4 = .ok (.aload_n 0, 1) := by decide +kernel
theorem dX12_takeRow_5 : decode cX12_takeRow 5 = .ok (.aload_n 0, 1) := by decide +kernel
theorem dX12_takeRow_6 : decode cX12_takeRow 6 = .ok (.invokevirtual 237, 3) := by decide +kernel
theorem dX12_takeRow_9 : decode cX12_takeRow 9 = .ok (.putfield 296, 3) := by decide +kernel
theorem dX12_takeRow_12 : decode cX12_takeRow 12 = .ok (.aload_n 0, 1) := by decide +kernel
theorem dX12_takeRow_13 : decode cX12_takeRow 13 = .ok (.getfield 296, 3) := by decide +kernel
theorem dX12_takeRow_16 : decode cX12_takeRow 16 = .ok (.iload_n 1, 1) := by decide +kernel
theorem dX12_takeRow_17 : decode cX12_takeRow 17 = .ok (.iload_n 2, 1) := by decide +kernel
theorem dX12_takeRow_18 : decode cX12_takeRow 18 = .ok (.invokestatic 162, 3) := by decide +kernel
theorem dX12_takeRow_21 : decode cX12_takeRow 21 = .ok (.ifCond .ne 5, 3) := by decide +kernel
theorem dX12_takeRow_24 : decode cX12_takeRow 24 = .ok (.iconst 0, 1) := by decide +kernel
theorem dX12_takeRow_25 : decode cX12_takeRow 25 = .ok (.ireturn, 1) := by decide +kernel
theorem dX12_takeRow_26 : decode cX12_takeRow 26 = .ok (.iconst 0, 1) := by decide +kernel
theorem dX12_takeRow_27 : decode cX12_takeRow 27 = .ok (.istore_n 3, 1) := by decide +kernel
theorem dX12_takeRow_28 : decode cX12_takeRow 28 = .ok (.iconst 0, 1) := by decide +kernel
theorem dX12_takeRow_29 : decode cX12_takeRow 29 = .ok (.istore 4, 2) := by decide +kernel
theorem dX12_takeRow_31 : decode cX12_takeRow 31 = .ok (.iload 4, 2) := by decide +kernel
theorem dX12_takeRow_33 : decode cX12_takeRow 33 = .ok (.aload_n 0, 1) := by decide +kernel
theorem dX12_takeRow_34 : decode cX12_takeRow 34 = .ok (.getfield 296, 3) := by decide +kernel
theorem dX12_takeRow_37 : decode cX12_takeRow 37 = .ok (.if_icmp .ge 65, 3) := by decide +kernel
theorem dX12_takeRow_40 : decode cX12_takeRow 40 = .ok (.aload_n 0, 1) := by decide +kernel
theorem dX12_takeRow_41 : decode cX12_takeRow 41 = .ok (.aload_n 0, 1) := by decide +kernel
theorem dX12_takeRow_42 : decode cX12_takeRow 42 = .ok (.getfield 7, 3) := by decide +kernel
theorem dX12_takeRow_45 : decode cX12_takeRow 45 = .ok (.iload 4, 2) := by decide +kernel
theorem dX12_takeRow_47 : decode cX12_takeRow 47 = .ok (.iaload, 1) := by decide +kernel
theorem dX12_takeRow_48 : decode cX12_takeRow 48 = .ok (.invokevirtual 247, 3) := by decide +kernel
theorem dX12_takeRow_51 : decode cX12_takeRow 51 = .ok (.ifCond .eq 17, 3) := by decide +kernel
theorem dX12_takeRow_54 : decode cX12_takeRow 54 = .ok (.iload_n 3, 1) := by decide +kernel
theorem dX12_takeRow_55 : decode cX12_takeRow 55 = .ok (.aload_n 0, 1) := by decide +kernel
theorem dX12_takeRow_56 : decode cX12_takeRow 56 = .ok (.getfield 7, 3) := by decide +kernel
theorem dX12_takeRow_59 : decode cX12_takeRow 59 = .ok (.iload 4, 2) := by decide +kernel
theorem dX12_takeRow_61 : decode cX12_takeRow 61 = .ok (.iaload, 1) := by decide +kernel
theorem dX12_takeRow_62 : decode cX12_takeRow 62 = .ok (.invokestatic 204, 3) := by decide +kernel
theorem dX12_takeRow_65 : decode cX12_takeRow 65 = .ok (.ifCond .eq 5, 3) := by decide +kernel
theorem dX12_takeRow_68 : decode cX12_takeRow 68 = .ok (.iconst 0, 1) := by decide +kernel
theorem dX12_takeRow_69 : decode cX12_takeRow 69 = .ok (.ireturn, 1) := by decide +kernel
theorem dX12_takeRow_70 : decode cX12_takeRow 70 = .ok (.iload_n 3, 1) := by decide +kernel
theorem dX12_takeRow_71 : decode cX12_takeRow 71 = .ok (.iconst 1, 1) := by decide +kernel
theorem dX12_takeRow_72 : decode cX12_takeRow 72 = .ok (.aload_n 0, 1) := by decide +kernel
theorem dX12_takeRow_73 : decode cX12_takeRow 73 = .ok (.getfield 7, 3) := by decide +kernel
theorem dX12_takeRow_76 : decode cX12_takeRow 76 = .ok (.iload 4, 2) := by decide +kernel
theorem dX12_takeRow_78 : decode cX12_takeRow 78 = .ok (.iaload, 1) := by decide +kernel
theorem dX12_takeRow_79 : decode cX12_takeRow 79 = .ok (.ishl, 1) := by decide +kernel
theorem dX12_takeRow_80 : decode cX12_takeRow 80 = .ok (.ior, 1) := by decide +kernel
theorem dX12_takeRow_81 : decode cX12_takeRow 81 = .ok (.istore_n 3, 1) := by decide +kernel
theorem dX12_takeRow_82 : decode cX12_takeRow 82 = .ok (.aload_n 0, 1) := by decide +kernel
theorem dX12_takeRow_83 : decode cX12_takeRow 83 = .ok (.getfield 45, 3) := by decide +kernel
theorem dX12_takeRow_86 : decode cX12_takeRow 86 = .ok (.iload 4, 2) := by decide +kernel
theorem dX12_takeRow_88 : decode cX12_takeRow 88 = .ok (.aload_n 0, 1) := by decide +kernel
theorem dX12_takeRow_89 : decode cX12_takeRow 89 = .ok (.getfield 7, 3) := by decide +kernel
theorem dX12_takeRow_92 : decode cX12_takeRow 92 = .ok (.iload 4, 2) := by decide +kernel
theorem dX12_takeRow_94 : decode cX12_takeRow 94 = .ok (.iaload, 1) := by decide +kernel
theorem dX12_takeRow_95 : decode cX12_takeRow 95 = .ok (.iastore, 1) := by decide +kernel
theorem dX12_takeRow_96 : decode cX12_takeRow 96 = .ok (.iinc 4 1, 3) := by decide +kernel
theorem dX12_takeRow_99 : decode cX12_takeRow 99 = .ok (.goto (-68), 3) := by decide +kernel
theorem dX12_takeRow_102 : decode cX12_takeRow 102 = .ok (.iconst 1, 1) := by decide +kernel
theorem dX12_takeRow_103 : decode cX12_takeRow 103 = .ok (.ireturn, 1) := by decide +kernel
theorem dX12_layNeeds_0 : decode cX12_layNeeds 0 = .ok (.iconst 0, 1) := by decide +kernel
theorem dX12_layNeeds_1 : decode cX12_layNeeds 1 = .ok (.istore_n 1, 1) := by decide +kernel
theorem dX12_layNeeds_2 : decode cX12_layNeeds 2 = .ok (.iload_n 1, 1) := by decide +kernel
theorem dX12_layNeeds_3 : decode cX12_layNeeds 3 = .ok (.aload_n 0, 1) := by decide +kernel
theorem dX12_layNeeds_4 : decode cX12_layNeeds 4 = .ok (.getfield 296, 3) := by decide +kernel
theorem dX12_layNeeds_7 : decode cX12_layNeeds 7 = .ok (.if_icmp .ge 77, 3) := by decide +kernel
theorem dX12_layNeeds_10 : decode cX12_layNeeds 10 = .ok (.iconst 0, 1) := by decide +kernel
theorem dX12_layNeeds_11 : decode cX12_layNeeds 11 = .ok (.istore_n 2, 1) := by decide +kernel
theorem dX12_layNeeds_12 : decode cX12_layNeeds 12 = .ok (.iload_n 2, 1) := by decide +kernel
theorem dX12_layNeeds_13 : decode cX12_layNeeds 13 = .ok (.aload_n 0, 1) := by decide +kernel
theorem dX12_layNeeds_14 : decode cX12_layNeeds 14 = .ok (.getfield 296, 3) := by decide +kernel
theorem dX12_layNeeds_17 : decode cX12_layNeeds 17 = .ok (.if_icmp .ge 61, 3) := by decide +kernel
theorem dX12_layNeeds_20 : decode cX12_layNeeds 20 = .ok (.iload_n 1, 1) := by decide +kernel
theorem dX12_layNeeds_21 : decode cX12_layNeeds 21 = .ok (.iload_n 2, 1) := by decide +kernel
theorem dX12_layNeeds_22 : decode cX12_layNeeds 22 = .ok (.if_icmp .ne 6, 3) := by decide +kernel
theorem dX12_layNeeds_25 : decode cX12_layNeeds 25 = .ok (.goto 47, 3) := by decide +kernel
theorem dX12_layNeeds_28 : decode cX12_layNeeds 28 = .ok (.aload_n 0, 1) := by decide +kernel
theorem dX12_layNeeds_29 : decode cX12_layNeeds 29 = .ok (.getfield 51, 3) := by decide +kernel
theorem dX12_layNeeds_32 : decode cX12_layNeeds 32 = .ok (.bipush 12, 2) := by decide +kernel
theorem dX12_layNeeds_34 : decode cX12_layNeeds 34 = .ok (.iload_n 1, 1) := by decide +kernel
theorem dX12_layNeeds_35 : decode cX12_layNeeds 35 = .ok (.imul, 1) := by decide +kernel
theorem dX12_layNeeds_36 : decode cX12_layNeeds 36 = .ok (.iload_n 2, 1) := by decide +kernel
theorem dX12_layNeeds_37 : decode cX12_layNeeds 37 = .ok (.iadd, 1) := by decide +kernel
theorem dX12_layNeeds_38 : decode cX12_layNeeds 38 = .ok (.aload_n 0, 1) := by decide +kernel
theorem dX12_layNeeds_39 : decode cX12_layNeeds 39 = .ok (.aload_n 0, 1) := by decide +kernel
theorem dX12_layNeeds_40 : decode cX12_layNeeds 40 = .ok (.getfield 45, 3) := by decide +kernel
theorem dX12_layNeeds_43 : decode cX12_layNeeds 43 = .ok (.iload_n 1, 1) := by decide +kernel
theorem dX12_layNeeds_44 : decode cX12_layNeeds 44 = .ok (.iaload, 1) := by decide +kernel
theorem dX12_layNeeds_45 : decode cX12_layNeeds 45 = .ok (.aload_n 0, 1) := by decide +kernel
theorem dX12_layNeeds_46 : decode cX12_layNeeds 46 = .ok (.getfield 45, 3) := by decide +kernel
theorem dX12_layNeeds_49 : decode cX12_layNeeds 49 = .ok (.iload_n 2, 1) := by decide +kernel
theorem dX12_layNeeds_50 : decode cX12_layNeeds 50 = .ok (.iaload, 1) := by decide +kernel
theorem dX12_layNeeds_51 : decode cX12_layNeeds 51 = .ok (.invokevirtual 293, 3) := by decide +kernel
theorem dX12_layNeeds_54 : decode cX12_layNeeds 54 = .ok (.iastore, 1) := by decide +kernel
theorem dX12_layNeeds_55 : decode cX12_layNeeds 55 = .ok (.aload_n 0, 1) := by decide +kernel
theorem dX12_layNeeds_56 : decode cX12_layNeeds 56 = .ok (.getfield 51, 3) := by decide +kernel
theorem dX12_layNeeds_59 : decode cX12_layNeeds 59 = .ok (.bipush 12, 2) := by decide +kernel
theorem dX12_layNeeds_61 : decode cX12_layNeeds 61 = .ok (.iload_n 1, 1) := by decide +kernel
theorem dX12_layNeeds_62 : decode cX12_layNeeds 62 = .ok (.imul, 1) := by decide +kernel
theorem dX12_layNeeds_63 : decode cX12_layNeeds 63 = .ok (.iload_n 2, 1) := by decide +kernel
theorem dX12_layNeeds_64 : decode cX12_layNeeds 64 = .ok (.iadd, 1) := by decide +kernel
theorem dX12_layNeeds_65 : decode cX12_layNeeds 65 = .ok (.iaload, 1) := by decide +kernel
theorem dX12_layNeeds_66 : decode cX12_layNeeds 66 = .ok (.iconst (-1), 1) := by decide +kernel
theorem dX12_layNeeds_67 : decode cX12_layNeeds 67 = .ok (.if_icmp .ne 5, 3) := by decide +kernel
theorem dX12_layNeeds_70 : decode cX12_layNeeds 70 = .ok (.iconst 0, 1) := by decide +kernel
theorem dX12_layNeeds_71 : decode cX12_layNeeds 71 = .ok (.ireturn, 1) := by decide +kernel
theorem dX12_layNeeds_72 : decode cX12_layNeeds 72 = .ok (.iinc 2 1, 3) := by decide +kernel
theorem dX12_layNeeds_75 : decode cX12_layNeeds 75 = .ok (.goto (-63), 3) := by decide +kernel
theorem dX12_layNeeds_78 : decode cX12_layNeeds 78 = .ok (.iinc 1 1, 3) := by decide +kernel
theorem dX12_layNeeds_81 : decode cX12_layNeeds 81 = .ok (.goto (-79), 3) := by decide +kernel
theorem dX12_layNeeds_84 : decode cX12_layNeeds 84 = .ok (.iconst 1, 1) := by decide +kernel
theorem dX12_layNeeds_85 : decode cX12_layNeeds 85 = .ok (.ireturn, 1) := by decide +kernel
theorem dX12_spanOf_0 : decode cX12_spanOf 0 = .ok (.iconst 0, 1) := by decide +kernel
theorem dX12_spanOf_1 : decode cX12_spanOf 1 = .ok (.istore_n 3, 1) := by decide +kernel
theorem dX12_spanOf_2 : decode cX12_spanOf 2 = .ok (.iconst 0, 1) := by decide +kernel
theorem dX12_spanOf_3 : decode cX12_spanOf 3 = .ok (.istore 4, 2) := by decide +kernel
theorem dX12_spanOf_5 : decode cX12_spanOf 5 = .ok (.iload 4, 2) := by decide +kernel
theorem dX12_spanOf_7 : decode cX12_spanOf 7 = .ok (.iload_n 2, 1) := by decide +kernel
theorem dX12_spanOf_8 : decode cX12_spanOf 8 = .ok (.if_icmp .ge 62, 3) := by decide +kernel
theorem dX12_spanOf_11 : decode cX12_spanOf 11 = .ok (.aload_n 0, 1) := by decide +kernel
theorem dX12_spanOf_12 : decode cX12_spanOf 12 = .ok (.getfield 48, 3) := by decide +kernel
theorem dX12_spanOf_15 : decode cX12_spanOf 15 = .ok (.iload 4, 2) := by decide +kernel
theorem dX12_spanOf_17 : decode cX12_spanOf 17 = .ok (.iaload, 1) := by decide +kernel
theorem dX12_spanOf_18 : decode cX12_spanOf 18 = .ok (.aload_n 0, 1) := by decide +kernel
theorem dX12_spanOf_19 : decode cX12_spanOf 19 = .ok (.getfield 51, 3) := by decide +kernel
theorem dX12_spanOf_22 : decode cX12_spanOf 22 = .ok (.bipush 12, 2) := by decide +kernel
theorem dX12_spanOf_24 : decode cX12_spanOf 24 = .ok (.aload_n 1, 1) := by decide +kernel
theorem dX12_spanOf_25 : decode cX12_spanOf 25 = .ok (.iload 4, 2) := by decide +kernel
theorem dX12_spanOf_27 : decode cX12_spanOf 27 = .ok (.iaload, 1) := by decide +kernel
theorem dX12_spanOf_28 : decode cX12_spanOf 28 = .ok (.imul, 1) := by decide +kernel
theorem dX12_spanOf_29 : decode cX12_spanOf 29 = .ok (.aload_n 1, 1) := by decide +kernel
theorem dX12_spanOf_30 : decode cX12_spanOf 30 = .ok (.iload_n 2, 1) := by decide +kernel
theorem dX12_spanOf_31 : decode cX12_spanOf 31 = .ok (.iaload, 1) := by decide +kernel
theorem dX12_spanOf_32 : decode cX12_spanOf 32 = .ok (.iadd, 1) := by decide +kernel
theorem dX12_spanOf_33 : decode cX12_spanOf 33 = .ok (.iaload, 1) := by decide +kernel
theorem dX12_spanOf_34 : decode cX12_spanOf 34 = .ok (.iadd, 1) := by decide +kernel
theorem dX12_spanOf_35 : decode cX12_spanOf 35 = .ok (.iload_n 3, 1) := by decide +kernel
theorem dX12_spanOf_36 : decode cX12_spanOf 36 = .ok (.if_icmp .le 28, 3) := by decide +kernel
theorem dX12_spanOf_39 : decode cX12_spanOf 39 = .ok (.aload_n 0, 1) := by decide +kernel
theorem dX12_spanOf_40 : decode cX12_spanOf 40 = .ok (.getfield 48, 3) := by decide +kernel
theorem dX12_spanOf_43 : decode cX12_spanOf 43 = .ok (.iload 4, 2) := by decide +kernel
theorem dX12_spanOf_45 : decode cX12_spanOf 45 = .ok (.iaload, 1) := by decide +kernel
theorem dX12_spanOf_46 : decode cX12_spanOf 46 = .ok (.aload_n 0, 1) := by decide +kernel
theorem dX12_spanOf_47 : decode cX12_spanOf 47 = .ok (.getfield 51, 3) := by decide +kernel
theorem dX12_spanOf_50 : decode cX12_spanOf 50 = .ok (.bipush 12, 2) := by decide +kernel
theorem dX12_spanOf_52 : decode cX12_spanOf 52 = .ok (.aload_n 1, 1) := by decide +kernel
theorem dX12_spanOf_53 : decode cX12_spanOf 53 = .ok (.iload 4, 2) := by decide +kernel
theorem dX12_spanOf_55 : decode cX12_spanOf 55 = .ok (.iaload, 1) := by decide +kernel
theorem dX12_spanOf_56 : decode cX12_spanOf 56 = .ok (.imul, 1) := by decide +kernel
theorem dX12_spanOf_57 : decode cX12_spanOf 57 = .ok (.aload_n 1, 1) := by decide +kernel
theorem dX12_spanOf_58 : decode cX12_spanOf 58 = .ok (.iload_n 2, 1) := by decide +kernel
theorem dX12_spanOf_59 : decode cX12_spanOf 59 = .ok (.iaload, 1) := by decide +kernel
theorem dX12_spanOf_60 : decode cX12_spanOf 60 = .ok (.iadd, 1) := by decide +kernel
theorem dX12_spanOf_61 : decode cX12_spanOf 61 = .ok (.iaload, 1) := by decide +kernel
theorem dX12_spanOf_62 : decode cX12_spanOf 62 = .ok (.iadd, 1) := by decide +kernel
theorem dX12_spanOf_63 : decode cX12_spanOf 63 = .ok (.istore_n 3, 1) := by decide +kernel
theorem dX12_spanOf_64 : decode cX12_spanOf 64 = .ok (.iinc 4 1, 3) := by decide +kernel
theorem dX12_spanOf_67 : decode cX12_spanOf 67 = .ok (.goto (-62), 3) := by decide +kernel
theorem dX12_spanOf_70 : decode cX12_spanOf 70 = .ok (.iload_n 3, 1) := by decide +kernel
theorem dX12_spanOf_71 : decode cX12_spanOf 71 = .ok (.ireturn, 1) := by decide +kernel
theorem dX12_arc_0 : decode cX12_arc 0 = .ok (.aload_n 0, 1) := by decide +kernel
theorem dX12_arc_1 : decode cX12_arc 1 = .ok (.iconst 0, 1) := by decide +kernel
theorem dX12_arc_2 : decode cX12_arc 2 = .ok (.putfield 97, 3) := by decide +kernel
theorem dX12_arc_5 : decode cX12_arc 5 = .ok (.aload_n 0, 1) := by decide +kernel
theorem dX12_arc_6 : decode cX12_arc 6 = .ok (.iconst 2, 1) := by decide +kernel
theorem dX12_arc_7 : decode cX12_arc 7 = .ok (.bipush 12, 2) := by decide +kernel
theorem dX12_arc_9 : decode cX12_arc 9 = .ok (.invokevirtual 299, 3) := by decide +kernel
theorem dX12_arc_12 : decode cX12_arc 12 = .ok (.ifCond .ne 6, 3) := by decide +kernel
theorem dX12_arc_15 : decode cX12_arc 15 = .ok (.bipush (-2), 2) := by decide +kernel
theorem dX12_arc_17 : decode cX12_arc 17 = .ok (.ireturn, 1) := by decide +kernel
theorem dX12_arc_18 : decode cX12_arc 18 = .ok (.aload_n 0, 1) := by decide +kernel
theorem dX12_arc_19 : decode cX12_arc 19 = .ok (.invokevirtual 302, 3) := by decide +kernel
theorem dX12_arc_22 : decode cX12_arc 22 = .ok (.ifCond .ne 5, 3) := by decide +kernel
theorem dX12_arc_25 : decode cX12_arc 25 = .ok (.iconst (-1), 1) := by decide +kernel
theorem dX12_arc_26 : decode cX12_arc 26 = .ok (.ireturn, 1) := by decide +kernel
theorem dX12_arc_27 : decode cX12_arc 27 = .ok (.iconst 0, 1) := by decide +kernel
theorem dX12_arc_28 : decode cX12_arc 28 = .ok (.istore_n 1, 1) := by decide +kernel
theorem dX12_arc_29 : decode cX12_arc 29 = .ok (.iload_n 1, 1) := by decide +kernel
theorem dX12_arc_30 : decode cX12_arc 30 = .ok (.aload_n 0, 1) := by decide +kernel
theorem dX12_arc_31 : decode cX12_arc 31 = .ok (.getfield 296, 3) := by decide +kernel
theorem dX12_arc_34 : decode cX12_arc 34 = .ok (.if_icmp .ge 31, 3) := by decide +kernel
theorem dX12_arc_37 : decode cX12_arc 37 = .ok (.aload_n 0, 1) := by decide +kernel
theorem dX12_arc_38 : decode cX12_arc 38 = .ok (.getfield 57, 3) := by decide +kernel
theorem dX12_arc_41 : decode cX12_arc 41 = .ok (.iload_n 1, 1) := by decide +kernel
theorem dX12_arc_42 : decode cX12_arc 42 = .ok (.iload_n 1, 1) := by decide +kernel
theorem dX12_arc_43 : decode cX12_arc 43 = .ok (.iastore, 1) := by decide +kernel
theorem dX12_arc_44 : decode cX12_arc 44 = .ok (.aload_n 0, 1) := by decide +kernel
theorem dX12_arc_45 : decode cX12_arc 45 = .ok (.getfield 48, 3) := by decide +kernel
theorem dX12_arc_48 : decode cX12_arc 48 = .ok (.iload_n 1, 1) := by decide +kernel
theorem dX12_arc_49 : decode cX12_arc 49 = .ok (.aload_n 0, 1) := by decide +kernel
theorem dX12_arc_50 : decode cX12_arc 50 = .ok (.aload_n 0, 1) := by decide +kernel
theorem dX12_arc_51 : decode cX12_arc 51 = .ok (.getfield 57, 3) := by decide +kernel
theorem dX12_arc_54 : decode cX12_arc 54 = .ok (.iload_n 1, 1) := by decide +kernel
theorem dX12_arc_55 : decode cX12_arc 55 = .ok (.invokevirtual 305, 3) := by decide +kernel
theorem dX12_arc_58 : decode cX12_arc 58 = .ok (.iastore, 1) := by decide +kernel
theorem dX12_arc_59 : decode cX12_arc 59 = .ok (.iinc 1 1, 3) := by decide +kernel
theorem dX12_arc_62 : decode cX12_arc 62 = .ok (.goto (-33), 3) := by decide +kernel
theorem dX12_arc_65 : decode cX12_arc 65 = .ok (.aload_n 0, 1) := by decide +kernel
theorem dX12_arc_66 : decode cX12_arc 66 = .ok (.getfield 48, 3) := by decide +kernel
theorem dX12_arc_69 : decode cX12_arc 69 = .ok (.aload_n 0, 1) := by decide +kernel
theorem dX12_arc_70 : decode cX12_arc 70 = .ok (.getfield 296, 3) := by decide +kernel
theorem dX12_arc_73 : decode cX12_arc 73 = .ok (.iconst 1, 1) := by decide +kernel
theorem dX12_arc_74 : decode cX12_arc 74 = .ok (.isub, 1) := by decide +kernel
theorem dX12_arc_75 : decode cX12_arc 75 = .ok (.iaload, 1) := by decide +kernel
theorem dX12_arc_76 : decode cX12_arc 76 = .ok (.ireturn, 1) := by decide +kernel
theorem dX12_tryOrder_0 : decode cX12_tryOrder 0 = .ok (.iload_n 1, 1) := by decide +kernel
theorem dX12_tryOrder_1 : decode cX12_tryOrder 1 = .ok (.ifCond .le 27, 3) := by decide +kernel
theorem dX12_tryOrder_4 : decode cX12_tryOrder 4 = .ok (.aload_n 0, 1) := by decide +kernel
theorem dX12_tryOrder_5 : decode cX12_tryOrder 5 = .ok (.getfield 309, 3) := by decide +kernel
theorem dX12_tryOrder_8 : decode cX12_tryOrder 8 = .ok (.iconst (-1), 1) := by decide +kernel
theorem dX12_tryOrder_9 : decode cX12_tryOrder 9 = .ok (.if_icmp .eq 19, 3) := by decide +kernel
theorem dX12_tryOrder_12 : decode cX12_tryOrder 12 = .ok (.aload_n 0, 1) := by decide +kernel
theorem dX12_tryOrder_13 : decode cX12_tryOrder 13 = .ok (.getfield 48, 3) := by decide +kernel
theorem dX12_tryOrder_16 : decode cX12_tryOrder 16 = .ok (.iload_n 1, 1) := by decide +kernel
theorem dX12_tryOrder_17 : decode cX12_tryOrder 17 = .ok (.iconst 1, 1) := by decide +kernel
theorem dX12_tryOrder_18 : decode cX12_tryOrder 18 = .ok (.isub, 1) := by decide +kernel
theorem dX12_tryOrder_19 : decode cX12_tryOrder 19 = .ok (.iaload, 1) := by decide +kernel
theorem dX12_tryOrder_20 : decode cX12_tryOrder 20 = .ok (.aload_n 0, 1) := by decide +kernel
theorem dX12_tryOrder_21 : decode cX12_tryOrder 21 = .ok (.getfield 309, 3) := by decide +kernel
theorem dX12_tryOrder_24 : decode cX12_tryOrder 24 = .ok (.if_icmp .lt 4, 3) := by decide +kernel
theorem dX12_tryOrder_27 : decode cX12_tryOrder 27 = .ok (.return_, 1) := by decide +kernel
theorem dX12_tryOrder_28 : decode cX12_tryOrder 28 = .ok (.iload_n 1, 1) := by decide +kernel
theorem dX12_tryOrder_29 : decode cX12_tryOrder 29 = .ok (.aload_n 0, 1) := by decide +kernel
theorem dX12_tryOrder_30 : decode cX12_tryOrder 30 = .ok (.getfield 296, 3) := by decide +kernel
theorem dX12_tryOrder_33 : decode cX12_tryOrder 33 = .ok (.if_icmp .ne 46, 3) := by decide +kernel
theorem dX12_tryOrder_36 : decode cX12_tryOrder 36 = .ok (.aload_n 0, 1) := by decide +kernel
theorem dX12_tryOrder_37 : decode cX12_tryOrder 37 = .ok (.aload_n 0, 1) := by decide +kernel
theorem dX12_tryOrder_38 : decode cX12_tryOrder 38 = .ok (.getfield 48, 3) := by decide +kernel
theorem dX12_tryOrder_41 : decode cX12_tryOrder 41 = .ok (.iload_n 1, 1) := by decide +kernel
theorem dX12_tryOrder_42 : decode cX12_tryOrder 42 = .ok (.iconst 1, 1) := by decide +kernel
theorem dX12_tryOrder_43 : decode cX12_tryOrder 43 = .ok (.isub, 1) := by decide +kernel
theorem dX12_tryOrder_44 : decode cX12_tryOrder 44 = .ok (.iaload, 1) := by decide +kernel
theorem dX12_tryOrder_45 : decode cX12_tryOrder 45 = .ok (.putfield 309, 3) := by decide +kernel
theorem dX12_tryOrder_48 : decode cX12_tryOrder 48 = .ok (.iconst 0, 1) := by decide +kernel
theorem dX12_tryOrder_49 : decode cX12_tryOrder 49 = .ok (.istore_n 3, 1) := by decide +kernel
theorem dX12_tryOrder_50 : decode cX12_tryOrder 50 = .ok (.iload_n 3, 1) := by decide +kernel
theorem dX12_tryOrder_51 : decode cX12_tryOrder 51 = .ok (.iload_n 1, 1) := by decide +kernel
theorem dX12_tryOrder_52 : decode cX12_tryOrder 52 = .ok (.if_icmp .ge 26, 3) := by decide +kernel
theorem dX12_tryOrder_55 : decode cX12_tryOrder 55 = .ok (.aload_n 0, 1) := by decide +kernel
theorem dX12_tryOrder_56 : decode cX12_tryOrder 56 = .ok (.getfield 54, 3) := by decide +kernel
theorem dX12_tryOrder_59 : decode cX12_tryOrder 59 = .ok (.iload_n 3, 1) := by decide +kernel
theorem dX12_tryOrder_60 : decode cX12_tryOrder 60 = .ok (.aload_n 0, 1) := by decide +kernel
theorem dX12_tryOrder_61 : decode cX12_tryOrder 61 = .ok (.getfield 45, 3) := by decide +kernel
theorem dX12_tryOrder_64 : decode cX12_tryOrder 64 = .ok (.aload_n 0, 1) := by decide +kernel
theorem dX12_tryOrder_65 : decode cX12_tryOrder 65 = .ok (.getfield 57, 3) := by decide +kernel
theorem dX12_tryOrder_68 : decode cX12_tryOrder 68 = .ok (.iload_n 3, 1) := by decide +kernel
theorem dX12_tryOrder_69 : decode cX12_tryOrder 69 = .ok (.iaload, 1) := by decide +kernel
theorem dX12_tryOrder_70 : decode cX12_tryOrder 70 = .ok (.iaload, 1) := by decide +kernel
theorem dX12_tryOrder_71 : decode cX12_tryOrder 71 = .ok (.iastore, 1) := by decide +kernel
theorem dX12_tryOrder_72 : decode cX12_tryOrder 72 = .ok (.iinc 3 1, 3) := by decide +kernel
theorem dX12_tryOrder_75 : decode cX12_tryOrder 75 = .ok (.goto (-25), 3) := by decide +kernel
theorem dX12_tryOrder_78 : decode cX12_tryOrder 78 = .ok (.return_, 1) := by decide +kernel
theorem dX12_tryOrder_79 : decode cX12_tryOrder 79 = .ok (.iconst 0, 1) := by decide +kernel
theorem dX12_tryOrder_80 : decode cX12_tryOrder 80 = .ok (.istore_n 3, 1) := by decide +kernel
theorem dX12_tryOrder_81 : decode cX12_tryOrder 81 = .ok (.iload_n 3, 1) := by decide +kernel
theorem dX12_tryOrder_82 : decode cX12_tryOrder 82 = .ok (.aload_n 0, 1) := by decide +kernel
theorem dX12_tryOrder_83 : decode cX12_tryOrder 83 = .ok (.getfield 296, 3) := by decide +kernel
theorem dX12_tryOrder_86 : decode cX12_tryOrder 86 = .ok (.if_icmp .ge 54, 3) := by decide +kernel
theorem dX12_tryOrder_89 : decode cX12_tryOrder 89 = .ok (.iload_n 2, 1) := by decide +kernel
theorem dX12_tryOrder_90 : decode cX12_tryOrder 90 = .ok (.iload_n 3, 1) := by decide +kernel
theorem dX12_tryOrder_91 : decode cX12_tryOrder 91 = .ok (.invokestatic 204, 3) := by decide +kernel
theorem dX12_tryOrder_94 : decode cX12_tryOrder 94 = .ok (.ifCond .eq 6, 3) := by decide +kernel
theorem dX12_tryOrder_97 : decode cX12_tryOrder 97 = .ok (.goto 37, 3) := by decide +kernel
theorem dX12_tryOrder_100 : decode cX12_tryOrder 100 = .ok (.aload_n 0, 1) := by decide +kernel
theorem dX12_tryOrder_101 : decode cX12_tryOrder 101 = .ok (.getfield 57, 3) := by decide +kernel
theorem dX12_tryOrder_104 : decode cX12_tryOrder 104 = .ok (.iload_n 1, 1) := by decide +kernel
theorem dX12_tryOrder_105 : decode cX12_tryOrder 105 = .ok (.iload_n 3, 1) := by decide +kernel
theorem dX12_tryOrder_106 : decode cX12_tryOrder 106 = .ok (.iastore, 1) := by decide +kernel
theorem dX12_tryOrder_107 : decode cX12_tryOrder 107 = .ok (.aload_n 0, 1) := by decide +kernel
theorem dX12_tryOrder_108 : decode cX12_tryOrder 108 = .ok (.getfield 48, 3) := by decide +kernel
theorem dX12_tryOrder_111 : decode cX12_tryOrder 111 = .ok (.iload_n 1, 1) := by decide +kernel
theorem dX12_tryOrder_112 : decode cX12_tryOrder 112 = .ok (.aload_n 0, 1) := by decide +kernel
theorem dX12_tryOrder_113 : decode cX12_tryOrder 113 = .ok (.aload_n 0, 1) := by decide +kernel
theorem dX12_tryOrder_114 : decode cX12_tryOrder 114 = .ok (.getfield 57, 3) := by decide +kernel
theorem dX12_tryOrder_117 : decode cX12_tryOrder 117 = .ok (.iload_n 1, 1) := by decide +kernel
theorem dX12_tryOrder_118 : decode cX12_tryOrder 118 = .ok (.invokevirtual 305, 3) := by decide +kernel
theorem dX12_tryOrder_121 : decode cX12_tryOrder 121 = .ok (.iastore, 1) := by decide +kernel
theorem dX12_tryOrder_122 : decode cX12_tryOrder 122 = .ok (.aload_n 0, 1) := by decide +kernel
theorem dX12_tryOrder_123 : decode cX12_tryOrder 123 = .ok (.iload_n 1, 1) := by decide +kernel
theorem dX12_tryOrder_124 : decode cX12_tryOrder 124 = .ok (.iconst 1, 1) := by decide +kernel
theorem dX12_tryOrder_125 : decode cX12_tryOrder 125 = .ok (.iadd, 1) := by decide +kernel
theorem dX12_tryOrder_126 : decode cX12_tryOrder 126 = .ok (.iload_n 2, 1) := by decide +kernel
theorem dX12_tryOrder_127 : decode cX12_tryOrder 127 = .ok (.iconst 1, 1) := by decide +kernel
theorem dX12_tryOrder_128 : decode cX12_tryOrder 128 = .ok (.iload_n 3, 1) := by decide +kernel
theorem dX12_tryOrder_129 : decode cX12_tryOrder 129 = .ok (.ishl, 1) := by decide +kernel
theorem dX12_tryOrder_130 : decode cX12_tryOrder 130 = .ok (.ior, 1) := by decide +kernel
theorem dX12_tryOrder_131 : decode cX12_tryOrder 131 = .ok (.invokevirtual 312, 3) := by decide +kernel
theorem dX12_tryOrder_134 : decode cX12_tryOrder 134 = .ok (.iinc 3 1, 3) := by decide +kernel
theorem dX12_tryOrder_137 : decode cX12_tryOrder 137 = .ok (.goto (-56), 3) := by decide +kernel
theorem dX12_tryOrder_140 : decode cX12_tryOrder 140 = .ok (.return_, 1) := by decide +kernel
theorem dX12_shortest_0 : decode cX12_shortest 0 = .ok (.aload_n 0, 1) := by decide +kernel
theorem dX12_shortest_1 : decode cX12_shortest 1 = .ok (.iconst 0, 1) := by decide +kernel
theorem dX12_shortest_2 : decode cX12_shortest 2 = .ok (.putfield 97, 3) := by decide +kernel
theorem dX12_shortest_5 : decode cX12_shortest 5 = .ok (.aload_n 0, 1) := by decide +kernel
theorem dX12_shortest_6 : decode cX12_shortest 6 = .ok (.iconst 2, 1) := by decide +kernel
theorem dX12_shortest_7 : decode cX12_shortest 7 = .ok (.bipush 7, 2) := by decide +kernel
theorem dX12_shortest_9 : decode cX12_shortest 9 = .ok (.invokevirtual 299, 3) := by decide +kernel
theorem dX12_shortest_12 : decode cX12_shortest 12 = .ok (.ifCond .ne 6, 3) := by decide +kernel
theorem dX12_shortest_15 : decode cX12_shortest 15 = .ok (.bipush (-2), 2) := by decide +kernel
theorem dX12_shortest_17 : decode cX12_shortest 17 = .ok (.ireturn, 1) := by decide +kernel
theorem dX12_shortest_18 : decode cX12_shortest 18 = .ok (.iconst 1, 1) := by decide +kernel
theorem dX12_shortest_19 : decode cX12_shortest 19 = .ok (.istore_n 1, 1) := by decide +kernel
theorem dX12_shortest_20 : decode cX12_shortest 20 = .ok (.iload_n 1, 1) := by decide +kernel
theorem dX12_shortest_21 : decode cX12_shortest 21 = .ok (.aload_n 0, 1) := by decide +kernel
theorem dX12_shortest_22 : decode cX12_shortest 22 = .ok (.getfield 296, 3) := by decide +kernel
theorem dX12_shortest_25 : decode cX12_shortest 25 = .ok (.if_icmp .ge 61, 3) := by decide +kernel
theorem dX12_shortest_28 : decode cX12_shortest 28 = .ok (.aload_n 0, 1) := by decide +kernel
theorem dX12_shortest_29 : decode cX12_shortest 29 = .ok (.getfield 45, 3) := by decide +kernel
theorem dX12_shortest_32 : decode cX12_shortest 32 = .ok (.iload_n 1, 1) := by decide +kernel
theorem dX12_shortest_33 : decode cX12_shortest 33 = .ok (.iaload, 1) := by decide +kernel
theorem dX12_shortest_34 : decode cX12_shortest 34 = .ok (.istore_n 2, 1) := by decide +kernel
theorem dX12_shortest_35 : decode cX12_shortest 35 = .ok (.iload_n 1, 1) := by decide +kernel
theorem dX12_shortest_36 : decode cX12_shortest 36 = .ok (.istore_n 3, 1) := by decide +kernel
theorem dX12_shortest_37 : decode cX12_shortest 37 = .ok (.iload_n 3, 1) := by decide +kernel
theorem dX12_shortest_38 : decode cX12_shortest 38 = .ok (.ifCond .le 35, 3) := by decide +kernel
theorem dX12_shortest_41 : decode cX12_shortest 41 = .ok (.aload_n 0, 1) := by decide +kernel
theorem dX12_shortest_42 : decode cX12_shortest 42 = .ok (.getfield 45, 3) := by decide +kernel
theorem dX12_shortest_45 : decode cX12_shortest 45 = .ok (.iload_n 3, 1) := by decide +kernel
theorem dX12_shortest_46 : decode cX12_shortest 46 = .ok (.iconst 1, 1) := by decide +kernel
theorem dX12_shortest_47 : decode cX12_shortest 47 = .ok (.isub, 1) := by decide +kernel
theorem dX12_shortest_48 : decode cX12_shortest 48 = .ok (.iaload, 1) := by decide +kernel
theorem dX12_shortest_49 : decode cX12_shortest 49 = .ok (.iload_n 2, 1) := by decide +kernel
theorem dX12_shortest_50 : decode cX12_shortest 50 = .ok (.if_icmp .le 23, 3) := by decide +kernel
theorem dX12_shortest_53 : decode cX12_shortest 53 = .ok (.aload_n 0, 1) := by decide +kernel
theorem dX12_shortest_54 : decode cX12_shortest 54 = .ok (.getfield 45, 3) := by decide +kernel
theorem dX12_shortest_57 : decode cX12_shortest 57 = .ok (.iload_n 3, 1) := by decide +kernel
theorem dX12_shortest_58 : decode cX12_shortest 58 = .ok (.aload_n 0, 1) := by decide +kernel
theorem dX12_shortest_59 : decode cX12_shortest 59 = .ok (.getfield 45, 3) := by decide +kernel
theorem dX12_shortest_62 : decode cX12_shortest 62 = .ok (.iload_n 3, 1) := by decide +kernel
theorem dX12_shortest_63 : decode cX12_shortest 63 = .ok (.iconst 1, 1) := by decide +kernel
theorem dX12_shortest_64 : decode cX12_shortest 64 = .ok (.isub, 1) := by decide +kernel
theorem dX12_shortest_65 : decode cX12_shortest 65 = .ok (.iaload, 1) := by decide +kernel
theorem dX12_shortest_66 : decode cX12_shortest 66 = .ok (.iastore, 1) := by decide +kernel
theorem dX12_shortest_67 : decode cX12_shortest 67 = .ok (.iinc 3 (-1), 3) := by decide +kernel
theorem dX12_shortest_70 : decode cX12_shortest 70 = .ok (.goto (-33), 3) := by decide +kernel
theorem dX12_shortest_73 : decode cX12_shortest 73 = .ok (.aload_n 0, 1) := by decide +kernel
theorem dX12_shortest_74 : decode cX12_shortest 74 = .ok (.getfield 45, 3) := by decide +kernel
theorem dX12_shortest_77 : decode cX12_shortest 77 = .ok (.iload_n 3, 1) := by decide +kernel
theorem dX12_shortest_78 : decode cX12_shortest 78 = .ok (.iload_n 2, 1) := by decide +kernel
theorem dX12_shortest_79 : decode cX12_shortest 79 = .ok (.iastore, 1) := by decide +kernel
theorem dX12_shortest_80 : decode cX12_shortest 80 = .ok (.iinc 1 1, 3) := by decide +kernel
theorem dX12_shortest_83 : decode cX12_shortest 83 = .ok (.goto (-63), 3) := by decide +kernel
theorem dX12_shortest_86 : decode cX12_shortest 86 = .ok (.aload_n 0, 1) := by decide +kernel
theorem dX12_shortest_87 : decode cX12_shortest 87 = .ok (.invokevirtual 302, 3) := by decide +kernel
theorem dX12_shortest_90 : decode cX12_shortest 90 = .ok (.ifCond .ne 5, 3) := by decide +kernel
theorem dX12_shortest_93 : decode cX12_shortest 93 = .ok (.iconst (-1), 1) := by decide +kernel
theorem dX12_shortest_94 : decode cX12_shortest 94 = .ok (.ireturn, 1) := by decide +kernel
theorem dX12_shortest_95 : decode cX12_shortest 95 = .ok (.aload_n 0, 1) := by decide +kernel
theorem dX12_shortest_96 : decode cX12_shortest 96 = .ok (.iconst (-1), 1) := by decide +kernel
theorem dX12_shortest_97 : decode cX12_shortest 97 = .ok (.putfield 309, 3) := by decide +kernel
theorem dX12_shortest_100 : decode cX12_shortest 100 = .ok (.aload_n 0, 1) := by decide +kernel
theorem dX12_shortest_101 : decode cX12_shortest 101 = .ok (.iconst 0, 1) := by decide +kernel
theorem dX12_shortest_102 : decode cX12_shortest 102 = .ok (.iconst 0, 1) := by decide +kernel
theorem dX12_shortest_103 : decode cX12_shortest 103 = .ok (.invokevirtual 312, 3) := by decide +kernel
theorem dX12_shortest_106 : decode cX12_shortest 106 = .ok (.aload_n 0, 1) := by decide +kernel
theorem dX12_shortest_107 : decode cX12_shortest 107 = .ok (.aload_n 0, 1) := by decide +kernel
theorem dX12_shortest_108 : decode cX12_shortest 108 = .ok (.getfield 296, 3) := by decide +kernel
theorem dX12_shortest_111 : decode cX12_shortest 111 = .ok (.putfield 316, 3) := by decide +kernel
theorem dX12_shortest_114 : decode cX12_shortest 114 = .ok (.iconst 0, 1) := by decide +kernel
theorem dX12_shortest_115 : decode cX12_shortest 115 = .ok (.istore_n 1, 1) := by decide +kernel
theorem dX12_shortest_116 : decode cX12_shortest 116 = .ok (.iload_n 1, 1) := by decide +kernel
theorem dX12_shortest_117 : decode cX12_shortest 117 = .ok (.aload_n 0, 1) := by decide +kernel
theorem dX12_shortest_118 : decode cX12_shortest 118 = .ok (.getfield 296, 3) := by decide +kernel
theorem dX12_shortest_121 : decode cX12_shortest 121 = .ok (.if_icmp .ge 21, 3) := by decide +kernel
theorem dX12_shortest_124 : decode cX12_shortest 124 = .ok (.aload_n 0, 1) := by decide +kernel
theorem dX12_shortest_125 : decode cX12_shortest 125 = .ok (.getfield 60, 3) := by decide +kernel
theorem dX12_shortest_128 : decode cX12_shortest 128 = .ok (.iload_n 1, 1) := by decide +kernel
theorem dX12_shortest_129 : decode cX12_shortest 129 = .ok (.aload_n 0, 1) := by decide +kernel
theorem dX12_shortest_130 : decode cX12_shortest 130 = .ok (.getfield 54, 3) := by decide +kernel
theorem dX12_shortest_133 : decode cX12_shortest 133 = .ok (.iload_n 1, 1) := by decide +kernel
theorem dX12_shortest_134 : decode cX12_shortest 134 = .ok (.iaload, 1) := by decide +kernel
theorem dX12_shortest_135 : decode cX12_shortest 135 = .ok (.iastore, 1) := by decide +kernel
theorem dX12_shortest_136 : decode cX12_shortest 136 = .ok (.iinc 1 1, 3) := by decide +kernel
theorem dX12_shortest_139 : decode cX12_shortest 139 = .ok (.goto (-23), 3) := by decide +kernel
theorem dX12_shortest_142 : decode cX12_shortest 142 = .ok (.aload_n 0, 1) := by decide +kernel
theorem dX12_shortest_143 : decode cX12_shortest 143 = .ok (.getfield 309, 3) := by decide +kernel
theorem dX12_shortest_146 : decode cX12_shortest 146 = .ok (.ireturn, 1) := by decide +kernel
theorem dX12_orderAt_0 : decode cX12_orderAt 0 = .ok (.aload_n 0, 1) := by decide +kernel
theorem dX12_orderAt_1 : decode cX12_orderAt 1 = .ok (.iconst 0, 1) := by decide +kernel
theorem dX12_orderAt_2 : decode cX12_orderAt 2 = .ok (.putfield 97, 3) := by decide +kernel
theorem dX12_orderAt_5 : decode cX12_orderAt 5 = .ok (.iload_n 1, 1) := by decide +kernel
theorem dX12_orderAt_6 : decode cX12_orderAt 6 = .ok (.ifCond .lt 20, 3) := by decide +kernel
theorem dX12_orderAt_9 : decode cX12_orderAt 9 = .ok (.iload_n 1, 1) := by decide +kernel
theorem dX12_orderAt_10 : decode cX12_orderAt 10 = .ok (.aload_n 0, 1) := by decide +kernel
theorem dX12_orderAt_11 : decode cX12_orderAt 11 = .ok (.getfield 316, 3) := by decide +kernel
theorem dX12_orderAt_14 : decode cX12_orderAt 14 = .ok (.if_icmp .ge 12, 3) := by decide +kernel
theorem dX12_orderAt_17 : decode cX12_orderAt 17 = .ok (.aload_n 0, 1) := by decide +kernel
theorem dX12_orderAt_18 : decode cX12_orderAt 18 = .ok (.getfield 60, 3) := by decide +kernel
theorem dX12_orderAt_21 : decode cX12_orderAt 21 = .ok (.iload_n 1, 1) := by decide +kernel
theorem dX12_orderAt_22 : decode cX12_orderAt 22 = .ok (.iaload, 1) := by decide +kernel
theorem dX12_orderAt_23 : decode cX12_orderAt 23 = .ok (.goto 4, 3) := by decide +kernel
theorem dX12_orderAt_26 : decode cX12_orderAt 26 = .ok (.iconst (-1), 1) := by decide +kernel
theorem dX12_orderAt_27 : decode cX12_orderAt 27 = .ok (.ireturn, 1) := by decide +kernel
theorem dX12_save_0 : decode cX12_save 0 = .ok (.iconst 0, 1) := by decide +kernel
theorem dX12_save_1 : decode cX12_save 1 = .ok (.istore_n 2, 1) := by decide +kernel
theorem dX12_save_2 : decode cX12_save 2 = .ok (.iload_n 2, 1) := by decide +kernel
theorem dX12_save_3 : decode cX12_save 3 = .ok (.bipush 32, 2) := by decide +kernel
theorem dX12_save_5 : decode cX12_save 5 = .ok (.if_icmp .ge 22, 3) := by decide +kernel
theorem dX12_save_8 : decode cX12_save 8 = .ok (.aload_n 1, 1) := by decide +kernel
theorem dX12_save_9 : decode cX12_save 9 = .ok (.iload_n 2, 1) := by decide +kernel
theorem dX12_save_10 : decode cX12_save 10 = .ok (.aload_n 0, 1) := by decide +kernel
theorem dX12_save_11 : decode cX12_save 11 = .ok (.getfield 13, 3) := by decide +kernel
theorem dX12_save_14 : decode cX12_save 14 = .ok (.sipush 340, 3) := by decide +kernel
theorem dX12_save_17 : decode cX12_save 17 = .ok (.iload_n 2, 1) := by decide +kernel
theorem dX12_save_18 : decode cX12_save 18 = .ok (.iadd, 1) := by decide +kernel
theorem dX12_save_19 : decode cX12_save 19 = .ok (.iaload, 1) := by decide +kernel
theorem dX12_save_20 : decode cX12_save 20 = .ok (.iastore, 1) := by decide +kernel
theorem dX12_save_21 : decode cX12_save 21 = .ok (.iinc 2 1, 3) := by decide +kernel
theorem dX12_save_24 : decode cX12_save 24 = .ok (.goto (-22), 3) := by decide +kernel
theorem dX12_save_27 : decode cX12_save 27 = .ok (.return_, 1) := by decide +kernel
theorem dX12_bring_0 : decode cX12_bring 0 = .ok (.iconst 0, 1) := by decide +kernel
theorem dX12_bring_1 : decode cX12_bring 1 = .ok (.istore_n 2, 1) := by decide +kernel
theorem dX12_bring_2 : decode cX12_bring 2 = .ok (.iload_n 2, 1) := by decide +kernel
theorem dX12_bring_3 : decode cX12_bring 3 = .ok (.bipush 32, 2) := by decide +kernel
theorem dX12_bring_5 : decode cX12_bring 5 = .ok (.if_icmp .ge 22, 3) := by decide +kernel
theorem dX12_bring_8 : decode cX12_bring 8 = .ok (.aload_n 0, 1) := by decide +kernel
theorem dX12_bring_9 : decode cX12_bring 9 = .ok (.getfield 13, 3) := by decide +kernel
theorem dX12_bring_12 : decode cX12_bring 12 = .ok (.sipush 340, 3) := by decide +kernel
theorem dX12_bring_15 : decode cX12_bring 15 = .ok (.iload_n 2, 1) := by decide +kernel
theorem dX12_bring_16 : decode cX12_bring 16 = .ok (.iadd, 1) := by decide +kernel
theorem dX12_bring_17 : decode cX12_bring 17 = .ok (.aload_n 1, 1) := by decide +kernel
theorem dX12_bring_18 : decode cX12_bring 18 = .ok (.iload_n 2, 1) := by decide +kernel
theorem dX12_bring_19 : decode cX12_bring 19 = .ok (.iaload, 1) := by decide +kernel
theorem dX12_bring_20 : decode cX12_bring 20 = .ok (.iastore, 1) := by decide +kernel
theorem dX12_bring_21 : decode cX12_bring 21 = .ok (.iinc 2 1, 3) := by decide +kernel
theorem dX12_bring_24 : decode cX12_bring 24 = .ok (.goto (-22), 3) := by decide +kernel
theorem dX12_bring_27 : decode cX12_bring 27 = .ok (.return_, 1) := by decide +kernel
theorem dX12_takeFree_0 : decode cX12_takeFree 0 = .ok (.aload_n 0, 1) := by decide +kernel
theorem dX12_takeFree_1 : decode cX12_takeFree 1 = .ok (.iconst 1, 1) := by decide +kernel
theorem dX12_takeFree_2 : decode cX12_takeFree 2 = .ok (.iload_n 1, 1) := by decide +kernel
theorem dX12_takeFree_3 : decode cX12_takeFree 3 = .ok (.invokevirtual 299, 3) := by decide +kernel
theorem dX12_takeFree_6 : decode cX12_takeFree 6 = .ok (.ifCond .ne 5, 3) := by decide +kernel
theorem dX12_takeFree_9 : decode cX12_takeFree 9 = .ok (.iconst 0, 1) := by decide +kernel
theorem dX12_takeFree_10 : decode cX12_takeFree 10 = .ok (.ireturn, 1) := by decide +kernel
theorem dX12_takeFree_11 : decode cX12_takeFree 11 = .ok (.iconst 0, 1) := by decide +kernel
theorem dX12_takeFree_12 : decode cX12_takeFree 12 = .ok (.istore_n 2, 1) := by decide +kernel
theorem dX12_takeFree_13 : decode cX12_takeFree 13 = .ok (.iload_n 2, 1) := by decide +kernel
theorem dX12_takeFree_14 : decode cX12_takeFree 14 = .ok (.aload_n 0, 1) := by decide +kernel
theorem dX12_takeFree_15 : decode cX12_takeFree 15 = .ok (.getfield 296, 3) := by decide +kernel
theorem dX12_takeFree_18 : decode cX12_takeFree 18 = .ok (.if_icmp .ge 24, 3) := by decide +kernel
theorem dX12_takeFree_21 : decode cX12_takeFree 21 = .ok (.aload_n 0, 1) := by decide +kernel
theorem dX12_takeFree_22 : decode cX12_takeFree 22 = .ok (.aload_n 0, 1) := by decide +kernel
theorem dX12_takeFree_23 : decode cX12_takeFree 23 = .ok (.getfield 45, 3) := by decide +kernel
theorem dX12_takeFree_26 : decode cX12_takeFree 26 = .ok (.iload_n 2, 1) := by decide +kernel
theorem dX12_takeFree_27 : decode cX12_takeFree 27 = .ok (.iaload, 1) := by decide +kernel
theorem dX12_takeFree_28 : decode cX12_takeFree 28 = .ok (.invokevirtual 278, 3) := by decide +kernel
theorem dX12_takeFree_31 : decode cX12_takeFree 31 = .ok (.ifCond .eq 5, 3) := by decide +kernel
theorem dX12_takeFree_34 : decode cX12_takeFree 34 = .ok (.iconst 0, 1) := by decide +kernel
theorem dX12_takeFree_35 : decode cX12_takeFree 35 = .ok (.ireturn, 1) := by decide +kernel
theorem dX12_takeFree_36 : decode cX12_takeFree 36 = .ok (.iinc 2 1, 3) := by decide +kernel
theorem dX12_takeFree_39 : decode cX12_takeFree 39 = .ok (.goto (-26), 3) := by decide +kernel
theorem dX12_takeFree_42 : decode cX12_takeFree 42 = .ok (.iconst 1, 1) := by decide +kernel
theorem dX12_takeFree_43 : decode cX12_takeFree 43 = .ok (.ireturn, 1) := by decide +kernel
theorem dX12_finds_0 : decode cX12_finds 0 = .ok (.iload_n 1, 1) := by decide +kernel
theorem dX12_finds_1 : decode cX12_finds 1 = .ok (.aload_n 0, 1) := by decide +kernel
theorem dX12_finds_2 : decode cX12_finds 2 = .ok (.getfield 296, 3) := by decide +kernel
theorem dX12_finds_5 : decode cX12_finds 5 = .ok (.if_icmp .ne 17, 3) := by decide +kernel
theorem dX12_finds_8 : decode cX12_finds 8 = .ok (.aload_n 0, 1) := by decide +kernel
theorem dX12_finds_9 : decode cX12_finds 9 = .ok (.invokevirtual 287, 3) := by decide +kernel
theorem dX12_finds_12 : decode cX12_finds 12 = .ok (.iconst (-1), 1) := by decide +kernel
theorem dX12_finds_13 : decode cX12_finds 13 = .ok (.if_icmp .ne 7, 3) := by decide +kernel
theorem dX12_finds_16 : decode cX12_finds 16 = .ok (.iconst 1, 1) := by decide +kernel
theorem dX12_finds_17 : decode cX12_finds 17 = .ok (.goto 4, 3) := by decide +kernel
theorem dX12_finds_20 : decode cX12_finds 20 = .ok (.iconst 0, 1) := by decide +kernel
theorem dX12_finds_21 : decode cX12_finds 21 = .ok (.ireturn, 1) := by decide +kernel
theorem dX12_finds_22 : decode cX12_finds 22 = .ok (.aload_n 0, 1) := by decide +kernel
theorem dX12_finds_23 : decode cX12_finds 23 = .ok (.getfield 45, 3) := by decide +kernel
theorem dX12_finds_26 : decode cX12_finds 26 = .ok (.iload_n 1, 1) := by decide +kernel
theorem dX12_finds_27 : decode cX12_finds 27 = .ok (.iaload, 1) := by decide +kernel
theorem dX12_finds_28 : decode cX12_finds 28 = .ok (.istore_n 3, 1) := by decide +kernel
theorem dX12_finds_29 : decode cX12_finds 29 = .ok (.iconst 0, 1) := by decide +kernel
theorem dX12_finds_30 : decode cX12_finds 30 = .ok (.istore 4, 2) := by decide +kernel
theorem dX12_finds_32 : decode cX12_finds 32 = .ok (.iload 4, 2) := by decide +kernel
theorem dX12_finds_34 : decode cX12_finds 34 = .ok (.aload_n 0, 1) := by decide +kernel
theorem dX12_finds_35 : decode cX12_finds 35 = .ok (.getfield 13, 3) := by decide +kernel
theorem dX12_finds_38 : decode cX12_finds 38 = .ok (.iconst 2, 1) := by decide +kernel
theorem dX12_finds_39 : decode cX12_finds 39 = .ok (.iaload, 1) := by decide +kernel
theorem dX12_finds_40 : decode cX12_finds 40 = .ok (.if_icmp .ge 133, 3) := by decide +kernel
theorem dX12_finds_43 : decode cX12_finds 43 = .ok (.iconst 0, 1) := by decide +kernel
theorem dX12_finds_44 : decode cX12_finds 44 = .ok (.istore 5, 2) := by decide +kernel
theorem dX12_finds_46 : decode cX12_finds 46 = .ok (.iload 5, 2) := by decide +kernel
theorem dX12_finds_48 : decode cX12_finds 48 = .ok (.iconst 4, 1) := by decide +kernel
theorem dX12_finds_49 : decode cX12_finds 49 = .ok (.if_icmp .ge 118, 3) := by decide +kernel
theorem dX12_finds_52 : decode cX12_finds 52 = .ok (.aload_n 0, 1) := by decide +kernel
theorem dX12_finds_53 : decode cX12_finds 53 = .ok (.iload_n 3, 1) := by decide +kernel
theorem dX12_finds_54 : decode cX12_finds 54 = .ok (.iconst 3, 1) := by decide +kernel
theorem dX12_finds_55 : decode cX12_finds 55 = .ok (.invokevirtual 180, 3) := by decide +kernel
theorem dX12_finds_58 : decode cX12_finds 58 = .ok (.iload 5, 2) := by decide +kernel
theorem dX12_finds_60 : decode cX12_finds 60 = .ok (.invokestatic 204, 3) := by decide +kernel
theorem dX12_finds_63 : decode cX12_finds 63 = .ok (.ifCond .eq 98, 3) := by decide +kernel
theorem dX12_finds_66 : decode cX12_finds 66 = .ok (.aload_n 0, 1) := by decide +kernel
theorem dX12_finds_67 : decode cX12_finds 67 = .ok (.iload_n 3, 1) := by decide +kernel
theorem dX12_finds_68 : decode cX12_finds 68 = .ok (.aload_n 0, 1) := by decide +kernel
theorem dX12_finds_69 : decode cX12_finds 69 = .ok (.getfield 13, 3) := by decide +kernel
theorem dX12_finds_72 : decode cX12_finds 72 = .ok (.iconst 5, 1) := by decide +kernel
theorem dX12_finds_73 : decode cX12_finds 73 = .ok (.iload 4, 2) := by decide +kernel
theorem dX12_finds_75 : decode cX12_finds 75 = .ok (.iadd, 1) := by decide +kernel
theorem dX12_finds_76 : decode cX12_finds 76 = .ok (.iaload, 1) := by decide +kernel
theorem dX12_finds_77 : decode cX12_finds 77 = .ok (.invokevirtual 272, 3) := by decide +kernel
theorem dX12_finds_80 : decode cX12_finds 80 = .ok (.ifCond .ne 6, 3) := by decide +kernel
theorem dX12_finds_83 : decode cX12_finds 83 = .ok (.goto 78, 3) := by decide +kernel
theorem dX12_finds_86 : decode cX12_finds 86 = .ok (.iload_n 2, 1) := by decide +kernel
theorem dX12_finds_87 : decode cX12_finds 87 = .ok (.iload_n 3, 1) := by decide +kernel
theorem dX12_finds_88 : decode cX12_finds 88 = .ok (.invokestatic 204, 3) := by decide +kernel
theorem dX12_finds_91 : decode cX12_finds 91 = .ok (.ifCond .eq 41, 3) := by decide +kernel
theorem dX12_finds_94 : decode cX12_finds 94 = .ok (.aload_n 0, 1) := by decide +kernel
theorem dX12_finds_95 : decode cX12_finds 95 = .ok (.getfield 63, 3) := by decide +kernel
theorem dX12_finds_98 : decode cX12_finds 98 = .ok (.iconst 2, 1) := by decide +kernel
theorem dX12_finds_99 : decode cX12_finds 99 = .ok (.iload_n 3, 1) := by decide +kernel
theorem dX12_finds_100 : decode cX12_finds 100 = .ok (.imul, 1) := by decide +kernel
theorem dX12_finds_101 : decode cX12_finds 101 = .ok (.iaload, 1) := by decide +kernel
theorem dX12_finds_102 : decode cX12_finds 102 = .ok (.aload_n 0, 1) := by decide +kernel
theorem dX12_finds_103 : decode cX12_finds 103 = .ok (.getfield 13, 3) := by decide +kernel
theorem dX12_finds_106 : decode cX12_finds 106 = .ok (.iconst 5, 1) := by decide +kernel
theorem dX12_finds_107 : decode cX12_finds 107 = .ok (.iload 4, 2) := by decide +kernel
theorem dX12_finds_109 : decode cX12_finds 109 = .ok (.iadd, 1) := by decide +kernel
theorem dX12_finds_110 : decode cX12_finds 110 = .ok (.iaload, 1) := by decide +kernel
theorem dX12_finds_111 : decode cX12_finds 111 = .ok (.if_icmp .ne 21, 3) := by decide +kernel
theorem dX12_finds_114 : decode cX12_finds 114 = .ok (.aload_n 0, 1) := by decide +kernel
theorem dX12_finds_115 : decode cX12_finds 115 = .ok (.getfield 63, 3) := by decide +kernel
theorem dX12_finds_118 : decode cX12_finds 118 = .ok (.iconst 2, 1) := by decide +kernel
theorem dX12_finds_119 : decode cX12_finds 119 = .ok (.iload_n 3, 1) := by decide +kernel
theorem dX12_finds_120 : decode cX12_finds 120 = .ok (.imul, 1) := by decide +kernel
theorem dX12_finds_121 : decode cX12_finds 121 = .ok (.iconst 1, 1) := by decide +kernel
theorem dX12_finds_122 : decode cX12_finds 122 = .ok (.iadd, 1) := by decide +kernel
theorem dX12_finds_123 : decode cX12_finds 123 = .ok (.iaload, 1) := by decide +kernel
theorem dX12_finds_124 : decode cX12_finds 124 = .ok (.iload 5, 2) := by decide +kernel
theorem dX12_finds_126 : decode cX12_finds 126 = .ok (.if_icmp .ne 6, 3) := by decide +kernel
theorem dX12_finds_129 : decode cX12_finds 129 = .ok (.goto 32, 3) := by decide +kernel
theorem dX12_finds_132 : decode cX12_finds 132 = .ok (.aload_n 0, 1) := by decide +kernel
theorem dX12_finds_133 : decode cX12_finds 133 = .ok (.iload_n 3, 1) := by decide +kernel
theorem dX12_finds_134 : decode cX12_finds 134 = .ok (.aload_n 0, 1) := by decide +kernel
theorem dX12_finds_135 : decode cX12_finds 135 = .ok (.getfield 13, 3) := by decide +kernel
theorem dX12_finds_138 : decode cX12_finds 138 = .ok (.iconst 5, 1) := by decide +kernel
theorem dX12_finds_139 : decode cX12_finds 139 = .ok (.iload 4, 2) := by decide +kernel
theorem dX12_finds_141 : decode cX12_finds 141 = .ok (.iadd, 1) := by decide +kernel
theorem dX12_finds_142 : decode cX12_finds 142 = .ok (.iaload, 1) := by decide +kernel
theorem dX12_finds_143 : decode cX12_finds 143 = .ok (.iload 5, 2) := by decide +kernel
theorem dX12_finds_145 : decode cX12_finds 145 = .ok (.invokevirtual 243, 3) := by decide +kernel
theorem dX12_finds_148 : decode cX12_finds 148 = .ok (.aload_n 0, 1) := by decide +kernel
theorem dX12_finds_149 : decode cX12_finds 149 = .ok (.iload_n 1, 1) := by decide +kernel
theorem dX12_finds_150 : decode cX12_finds 150 = .ok (.iconst 1, 1) := by decide +kernel
theorem dX12_finds_151 : decode cX12_finds 151 = .ok (.iadd, 1) := by decide +kernel
theorem dX12_finds_152 : decode cX12_finds 152 = .ok (.iload_n 2, 1) := by decide +kernel
theorem dX12_finds_153 : decode cX12_finds 153 = .ok (.invokevirtual 319, 3) := by decide +kernel
theorem dX12_finds_156 : decode cX12_finds 156 = .ok (.ifCond .eq 5, 3) := by decide +kernel
theorem dX12_finds_159 : decode cX12_finds 159 = .ok (.iconst 1, 1) := by decide +kernel
theorem dX12_finds_160 : decode cX12_finds 160 = .ok (.ireturn, 1) := by decide +kernel
theorem dX12_finds_161 : decode cX12_finds 161 = .ok (.iinc 5 1, 3) := by decide +kernel
theorem dX12_finds_164 : decode cX12_finds 164 = .ok (.goto (-118), 3) := by decide +kernel
theorem dX12_finds_167 : decode cX12_finds 167 = .ok (.iinc 4 1, 3) := by decide +kernel
theorem dX12_finds_170 : decode cX12_finds 170 = .ok (.goto (-138), 3) := by decide +kernel
theorem dX12_finds_173 : decode cX12_finds 173 = .ok (.aload_n 0, 1) := by decide +kernel
theorem dX12_finds_174 : decode cX12_finds 174 = .ok (.iload_n 3, 1) := by decide +kernel
theorem dX12_finds_175 : decode cX12_finds 175 = .ok (.iconst (-1), 1) := by decide +kernel
theorem dX12_finds_176 : decode cX12_finds 176 = .ok (.iconst 0, 1) := by decide +kernel
theorem dX12_finds_177 : decode cX12_finds 177 = .ok (.invokevirtual 243, 3) := by decide +kernel
theorem dX12_finds_180 : decode cX12_finds 180 = .ok (.iconst 0, 1) := by decide +kernel
theorem dX12_finds_181 : decode cX12_finds 181 = .ok (.ireturn, 1) := by decide +kernel
theorem dX12_liftRow_0 : decode cX12_liftRow 0 = .ok (.iconst 0, 1) := by decide +kernel
theorem dX12_liftRow_1 : decode cX12_liftRow 1 = .ok (.istore_n 1, 1) := by decide +kernel
theorem dX12_liftRow_2 : decode cX12_liftRow 2 = .ok (.iload_n 1, 1) := by decide +kernel
theorem dX12_liftRow_3 : decode cX12_liftRow 3 = .ok (.aload_n 0, 1) := by decide +kernel
theorem dX12_liftRow_4 : decode cX12_liftRow 4 = .ok (.getfield 296, 3) := by decide +kernel
theorem dX12_liftRow_7 : decode cX12_liftRow 7 = .ok (.if_icmp .ge 21, 3) := by decide +kernel
theorem dX12_liftRow_10 : decode cX12_liftRow 10 = .ok (.aload_n 0, 1) := by decide +kernel
theorem dX12_liftRow_11 : decode cX12_liftRow 11 = .ok (.aload_n 0, 1) := by decide +kernel
theorem dX12_liftRow_12 : decode cX12_liftRow 12 = .ok (.getfield 45, 3) := by decide +kernel
theorem dX12_liftRow_15 : decode cX12_liftRow 15 = .ok (.iload_n 1, 1) := by decide +kernel
theorem dX12_liftRow_16 : decode cX12_liftRow 16 = .ok (.iaload, 1) := by decide +kernel
theorem dX12_liftRow_17 : decode cX12_liftRow 17 = .ok (.iconst (-1), 1) := by decide +kernel
theorem dX12_liftRow_18 : decode cX12_liftRow 18 = .ok (.iconst 0, 1) := by decide +kernel
theorem dX12_liftRow_19 : decode cX12_liftRow 19 = .ok (.invokevirtual 243, 3) := by decide +kernel
theorem dX12_liftRow_22 : decode cX12_liftRow 22 = .ok (.iinc 1 1, 3) := by decide +kernel
theorem dX12_liftRow_25 : decode cX12_liftRow 25 = .ok (.goto (-23), 3) := by decide +kernel
theorem dX12_liftRow_28 : decode cX12_liftRow 28 = .ok (.return_, 1) := by decide +kernel
theorem dX12_find_0 : decode cX12_find 0 = .ok (.aload_n 0, 1) := by decide +kernel
theorem dX12_find_1 : decode cX12_find 1 = .ok (.iconst 0, 1) := by decide +kernel
theorem dX12_find_2 : decode cX12_find 2 = .ok (.putfield 97, 3) := by decide +kernel
theorem dX12_find_5 : decode cX12_find 5 = .ok (.aload_n 0, 1) := by decide +kernel
theorem dX12_find_6 : decode cX12_find 6 = .ok (.iconst 4, 1) := by decide +kernel
theorem dX12_find_7 : decode cX12_find 7 = .ok (.invokevirtual 322, 3) := by decide +kernel
theorem dX12_find_10 : decode cX12_find 10 = .ok (.ifCond .ne 5, 3) := by decide +kernel
theorem dX12_find_13 : decode cX12_find 13 = .ok (.iconst (-1), 1) := by decide +kernel
theorem dX12_find_14 : decode cX12_find 14 = .ok (.ireturn, 1) := by decide +kernel
theorem dX12_find_15 : decode cX12_find 15 = .ok (.aload_n 0, 1) := by decide +kernel
theorem dX12_find_16 : decode cX12_find 16 = .ok (.invokevirtual 284, 3) := by decide +kernel
theorem dX12_find_19 : decode cX12_find 19 = .ok (.aload_n 0, 1) := by decide +kernel
theorem dX12_find_20 : decode cX12_find 20 = .ok (.aload_n 0, 1) := by decide +kernel
theorem dX12_find_21 : decode cX12_find 21 = .ok (.getfield 63, 3) := by decide +kernel
theorem dX12_find_24 : decode cX12_find 24 = .ok (.invokevirtual 325, 3) := by decide +kernel
theorem dX12_find_27 : decode cX12_find 27 = .ok (.aload_n 0, 1) := by decide +kernel
theorem dX12_find_28 : decode cX12_find 28 = .ok (.invokevirtual 329, 3) := by decide +kernel
theorem dX12_find_31 : decode cX12_find 31 = .ok (.aload_n 0, 1) := by decide +kernel
theorem dX12_find_32 : decode cX12_find 32 = .ok (.iconst 0, 1) := by decide +kernel
theorem dX12_find_33 : decode cX12_find 33 = .ok (.iconst 0, 1) := by decide +kernel
theorem dX12_find_34 : decode cX12_find 34 = .ok (.invokevirtual 319, 3) := by decide +kernel
theorem dX12_find_37 : decode cX12_find 37 = .ok (.ifCond .eq 5, 3) := by decide +kernel
theorem dX12_find_40 : decode cX12_find 40 = .ok (.iconst 1, 1) := by decide +kernel
theorem dX12_find_41 : decode cX12_find 41 = .ok (.ireturn, 1) := by decide +kernel
theorem dX12_find_42 : decode cX12_find 42 = .ok (.aload_n 0, 1) := by decide +kernel
theorem dX12_find_43 : decode cX12_find 43 = .ok (.aload_n 0, 1) := by decide +kernel
theorem dX12_find_44 : decode cX12_find 44 = .ok (.getfield 63, 3) := by decide +kernel
theorem dX12_find_47 : decode cX12_find 47 = .ok (.invokevirtual 332, 3) := by decide +kernel
theorem dX12_find_50 : decode cX12_find 50 = .ok (.iconst 0, 1) := by decide +kernel
theorem dX12_find_51 : decode cX12_find 51 = .ok (.ireturn, 1) := by decide +kernel
theorem dX12_waysFrom_0 : decode cX12_waysFrom 0 = .ok (.iload_n 1, 1) := by decide +kernel
theorem dX12_waysFrom_1 : decode cX12_waysFrom 1 = .ok (.aload_n 0, 1) := by decide +kernel
theorem dX12_waysFrom_2 : decode cX12_waysFrom 2 = .ok (.getfield 296, 3) := by decide +kernel
theorem dX12_waysFrom_5 : decode cX12_waysFrom 5 = .ok (.if_icmp .ne 17, 3) := by decide +kernel
theorem dX12_waysFrom_8 : decode cX12_waysFrom 8 = .ok (.aload_n 0, 1) := by decide +kernel
theorem dX12_waysFrom_9 : decode cX12_waysFrom 9 = .ok (.invokevirtual 287, 3) := by decide +kernel
theorem dX12_waysFrom_12 : decode cX12_waysFrom 12 = .ok (.iconst (-1), 1) := by decide +kernel
theorem dX12_waysFrom_13 : decode cX12_waysFrom 13 = .ok (.if_icmp .ne 7, 3) := by decide +kernel
theorem dX12_waysFrom_16 : decode cX12_waysFrom 16 = .ok (.iconst 1, 1) := by decide +kernel
theorem dX12_waysFrom_17 : decode cX12_waysFrom 17 = .ok (.goto 4, 3) := by decide +kernel
theorem dX12_waysFrom_20 : decode cX12_waysFrom 20 = .ok (.iconst 0, 1) := by decide +kernel
theorem dX12_waysFrom_21 : decode cX12_waysFrom 21 = .ok (.ireturn, 1) := by decide +kernel
theorem dX12_waysFrom_22 : decode cX12_waysFrom 22 = .ok (.aload_n 0, 1) := by decide +kernel
theorem dX12_waysFrom_23 : decode cX12_waysFrom 23 = .ok (.getfield 45, 3) := by decide +kernel
theorem dX12_waysFrom_26 : decode cX12_waysFrom 26 = .ok (.iload_n 1, 1) := by decide +kernel
theorem dX12_waysFrom_27 : decode cX12_waysFrom 27 = .ok (.iaload, 1) := by decide +kernel
theorem dX12_waysFrom_28 : decode cX12_waysFrom 28 = .ok (.istore_n 2, 1) := by decide +kernel
theorem dX12_waysFrom_29 : decode cX12_waysFrom 29 = .ok (.iconst 0, 1) := by decide +kernel
theorem dX12_waysFrom_30 : decode cX12_waysFrom 30 = .ok (.istore_n 3, 1) := by decide +kernel
theorem dX12_waysFrom_31 : decode cX12_waysFrom 31 = .ok (.iconst 0, 1) := by decide +kernel
theorem dX12_waysFrom_32 : decode cX12_waysFrom 32 = .ok (.istore 4, 2) := by decide +kernel
theorem dX12_waysFrom_34 : decode cX12_waysFrom 34 = .ok (.iload 4, 2) := by decide +kernel
theorem dX12_waysFrom_36 : decode cX12_waysFrom 36 = .ok (.aload_n 0, 1) := by decide +kernel
theorem dX12_waysFrom_37 : decode cX12_waysFrom 37 = .ok (.getfield 13, 3) := by decide +kernel
theorem dX12_waysFrom_40 : decode cX12_waysFrom 40 = .ok (.iconst 2, 1) := by decide +kernel
theorem dX12_waysFrom_41 : decode cX12_waysFrom 41 = .ok (.iaload, 1) := by decide +kernel
theorem dX12_waysFrom_42 : decode cX12_waysFrom 42 = .ok (.if_icmp .ge 84, 3) := by decide +kernel
theorem dX12_waysFrom_45 : decode cX12_waysFrom 45 = .ok (.iconst 0, 1) := by decide +kernel
theorem dX12_waysFrom_46 : decode cX12_waysFrom 46 = .ok (.istore 5, 2) := by decide +kernel
theorem dX12_waysFrom_48 : decode cX12_waysFrom 48 = .ok (.iload 5, 2) := by decide +kernel
theorem dX12_waysFrom_50 : decode cX12_waysFrom 50 = .ok (.iconst 4, 1) := by decide +kernel
theorem dX12_waysFrom_51 : decode cX12_waysFrom 51 = .ok (.if_icmp .ge 69, 3) := by decide +kernel
theorem dX12_waysFrom_54 : decode cX12_waysFrom 54 = .ok (.aload_n 0, 1) := by decide +kernel
theorem dX12_waysFrom_55 : decode cX12_waysFrom 55 = .ok (.iload_n 2, 1) := by decide +kernel
theorem dX12_waysFrom_56 : decode cX12_waysFrom 56 = .ok (.iconst 3, 1) := by decide +kernel
theorem dX12_waysFrom_57 : decode cX12_waysFrom 57 = .ok (.invokevirtual 180, 3) := by decide +kernel
theorem dX12_waysFrom_60 : decode cX12_waysFrom 60 = .ok (.iload 5, 2) := by decide +kernel
theorem dX12_waysFrom_62 : decode cX12_waysFrom 62 = .ok (.invokestatic 204, 3) := by decide +kernel
theorem dX12_waysFrom_65 : decode cX12_waysFrom 65 = .ok (.ifCond .eq 49, 3) := by decide +kernel
theorem dX12_waysFrom_68 : decode cX12_waysFrom 68 = .ok (.aload_n 0, 1) := by decide +kernel
theorem dX12_waysFrom_69 : decode cX12_waysFrom 69 = .ok (.iload_n 2, 1) := by decide +kernel
theorem dX12_waysFrom_70 : decode cX12_waysFrom 70 = .ok (.aload_n 0, 1) := by decide +kernel
theorem dX12_waysFrom_71 : decode cX12_waysFrom 71 = .ok (.getfield 13, 3) := by decide +kernel
theorem dX12_waysFrom_74 : decode cX12_waysFrom 74 = .ok (.iconst 5, 1) := by decide +kernel
theorem dX12_waysFrom_75 : decode cX12_waysFrom 75 = .ok (.iload 4, 2) := by decide +kernel
theorem dX12_waysFrom_77 : decode cX12_waysFrom 77 = .ok (.iadd, 1) := by decide +kernel
theorem dX12_waysFrom_78 : decode cX12_waysFrom 78 = .ok (.iaload, 1) := by decide +kernel
theorem dX12_waysFrom_79 : decode cX12_waysFrom 79 = .ok (.invokevirtual 272, 3) := by decide +kernel
theorem dX12_waysFrom_82 : decode cX12_waysFrom 82 = .ok (.ifCond .ne 6, 3) := by decide +kernel
theorem dX12_waysFrom_85 : decode cX12_waysFrom 85 = .ok (.goto 29, 3) := by decide +kernel
theorem dX12_waysFrom_88 : decode cX12_waysFrom 88 = .ok (.aload_n 0, 1) := by decide +kernel
theorem dX12_waysFrom_89 : decode cX12_waysFrom 89 = .ok (.iload_n 2, 1) := by decide +kernel
theorem dX12_waysFrom_90 : decode cX12_waysFrom 90 = .ok (.aload_n 0, 1) := by decide +kernel
theorem dX12_waysFrom_91 : decode cX12_waysFrom 91 = .ok (.getfield 13, 3) := by decide +kernel
theorem dX12_waysFrom_94 : decode cX12_waysFrom 94 = .ok (.iconst 5, 1) := by decide +kernel
theorem dX12_waysFrom_95 : decode cX12_waysFrom 95 = .ok (.iload 4, 2) := by decide +kernel
theorem dX12_waysFrom_97 : decode cX12_waysFrom 97 = .ok (.iadd, 1) := by decide +kernel
theorem dX12_waysFrom_98 : decode cX12_waysFrom 98 = .ok (.iaload, 1) := by decide +kernel
theorem dX12_waysFrom_99 : decode cX12_waysFrom 99 = .ok (.iload 5, 2) := by decide +kernel
theorem dX12_waysFrom_101 : decode cX12_waysFrom 101 = .ok (.invokevirtual 243, 3) := by decide +kernel
theorem dX12_waysFrom_104 : decode cX12_waysFrom 104 = .ok (.iload_n 3, 1) := by decide +kernel
theorem dX12_waysFrom_105 : decode cX12_waysFrom 105 = .ok (.aload_n 0, 1) := by decide +kernel
theorem dX12_waysFrom_106 : decode cX12_waysFrom 106 = .ok (.iload_n 1, 1) := by decide +kernel
theorem dX12_waysFrom_107 : decode cX12_waysFrom 107 = .ok (.iconst 1, 1) := by decide +kernel
theorem dX12_waysFrom_108 : decode cX12_waysFrom 108 = .ok (.iadd, 1) := by decide +kernel
theorem dX12_waysFrom_109 : decode cX12_waysFrom 109 = .ok (.invokevirtual 335, 3) := by decide +kernel
theorem dX12_waysFrom_112 : decode cX12_waysFrom 112 = .ok (.iadd, 1) := by decide +kernel
theorem dX12_waysFrom_113 : decode cX12_waysFrom 113 = .ok (.istore_n 3, 1) := by decide +kernel
theorem dX12_waysFrom_114 : decode cX12_waysFrom 114 = .ok (.iinc 5 1, 3) := by decide +kernel
theorem dX12_waysFrom_117 : decode cX12_waysFrom 117 = .ok (.goto (-69), 3) := by decide +kernel
theorem dX12_waysFrom_120 : decode cX12_waysFrom 120 = .ok (.iinc 4 1, 3) := by decide +kernel
theorem dX12_waysFrom_123 : decode cX12_waysFrom 123 = .ok (.goto (-89), 3) := by decide +kernel
theorem dX12_waysFrom_126 : decode cX12_waysFrom 126 = .ok (.aload_n 0, 1) := by decide +kernel
theorem dX12_waysFrom_127 : decode cX12_waysFrom 127 = .ok (.iload_n 2, 1) := by decide +kernel
theorem dX12_waysFrom_128 : decode cX12_waysFrom 128 = .ok (.iconst (-1), 1) := by decide +kernel
theorem dX12_waysFrom_129 : decode cX12_waysFrom 129 = .ok (.iconst 0, 1) := by decide +kernel
theorem dX12_waysFrom_130 : decode cX12_waysFrom 130 = .ok (.invokevirtual 243, 3) := by decide +kernel
theorem dX12_waysFrom_133 : decode cX12_waysFrom 133 = .ok (.iload_n 3, 1) := by decide +kernel
theorem dX12_waysFrom_134 : decode cX12_waysFrom 134 = .ok (.ireturn, 1) := by decide +kernel
theorem dX12_ways_0 : decode cX12_ways 0 = .ok (.aload_n 0, 1) := by decide +kernel
theorem dX12_ways_1 : decode cX12_ways 1 = .ok (.iconst 0, 1) := by decide +kernel
theorem dX12_ways_2 : decode cX12_ways 2 = .ok (.putfield 97, 3) := by decide +kernel
theorem dX12_ways_5 : decode cX12_ways 5 = .ok (.aload_n 0, 1) := by decide +kernel
theorem dX12_ways_6 : decode cX12_ways 6 = .ok (.iconst 4, 1) := by decide +kernel
theorem dX12_ways_7 : decode cX12_ways 7 = .ok (.invokevirtual 322, 3) := by decide +kernel
theorem dX12_ways_10 : decode cX12_ways 10 = .ok (.ifCond .ne 5, 3) := by decide +kernel
theorem dX12_ways_13 : decode cX12_ways 13 = .ok (.iconst (-1), 1) := by decide +kernel
theorem dX12_ways_14 : decode cX12_ways 14 = .ok (.ireturn, 1) := by decide +kernel
theorem dX12_ways_15 : decode cX12_ways 15 = .ok (.aload_n 0, 1) := by decide +kernel
theorem dX12_ways_16 : decode cX12_ways 16 = .ok (.invokevirtual 284, 3) := by decide +kernel
theorem dX12_ways_19 : decode cX12_ways 19 = .ok (.aload_n 0, 1) := by decide +kernel
theorem dX12_ways_20 : decode cX12_ways 20 = .ok (.aload_n 0, 1) := by decide +kernel
theorem dX12_ways_21 : decode cX12_ways 21 = .ok (.getfield 63, 3) := by decide +kernel
theorem dX12_ways_24 : decode cX12_ways 24 = .ok (.invokevirtual 325, 3) := by decide +kernel
theorem dX12_ways_27 : decode cX12_ways 27 = .ok (.aload_n 0, 1) := by decide +kernel
theorem dX12_ways_28 : decode cX12_ways 28 = .ok (.invokevirtual 329, 3) := by decide +kernel
theorem dX12_ways_31 : decode cX12_ways 31 = .ok (.aload_n 0, 1) := by decide +kernel
theorem dX12_ways_32 : decode cX12_ways 32 = .ok (.iconst 0, 1) := by decide +kernel
theorem dX12_ways_33 : decode cX12_ways 33 = .ok (.invokevirtual 335, 3) := by decide +kernel
theorem dX12_ways_36 : decode cX12_ways 36 = .ok (.istore_n 1, 1) := by decide +kernel
theorem dX12_ways_37 : decode cX12_ways 37 = .ok (.aload_n 0, 1) := by decide +kernel
theorem dX12_ways_38 : decode cX12_ways 38 = .ok (.aload_n 0, 1) := by decide +kernel
theorem dX12_ways_39 : decode cX12_ways 39 = .ok (.getfield 63, 3) := by decide +kernel
theorem dX12_ways_42 : decode cX12_ways 42 = .ok (.invokevirtual 332, 3) := by decide +kernel
theorem dX12_ways_45 : decode cX12_ways 45 = .ok (.iload_n 1, 1) := by decide +kernel
theorem dX12_ways_46 : decode cX12_ways 46 = .ok (.ireturn, 1) := by decide +kernel
theorem dX12_tryWorth_0 : decode cX12_tryWorth 0 = .ok (.iload_n 1, 1) := by decide +kernel
theorem dX12_tryWorth_1 : decode cX12_tryWorth 1 = .ok (.aload_n 0, 1) := by decide +kernel
theorem dX12_tryWorth_2 : decode cX12_tryWorth 2 = .ok (.getfield 296, 3) := by decide +kernel
theorem dX12_tryWorth_5 : decode cX12_tryWorth 5 = .ok (.if_icmp .ne 34, 3) := by decide +kernel
theorem dX12_tryWorth_8 : decode cX12_tryWorth 8 = .ok (.iload_n 2, 1) := by decide +kernel
theorem dX12_tryWorth_9 : decode cX12_tryWorth 9 = .ok (.aload_n 0, 1) := by decide +kernel
theorem dX12_tryWorth_10 : decode cX12_tryWorth 10 = .ok (.getfield 338, 3) := by decide +kernel
theorem dX12_tryWorth_13 : decode cX12_tryWorth 13 = .ok (.if_icmp .le 11, 3) := by decide +kernel
theorem dX12_tryWorth_16 : decode cX12_tryWorth 16 = .ok (.aload_n 0, 1) := by decide +kernel
theorem dX12_tryWorth_17 : decode cX12_tryWorth 17 = .ok (.invokevirtual 287, 3) := by decide +kernel
theorem dX12_tryWorth_20 : decode cX12_tryWorth 20 = .ok (.iconst (-1), 1) := by decide +kernel
theorem dX12_tryWorth_21 : decode cX12_tryWorth 21 = .ok (.if_icmp .eq 4, 3) := by decide +kernel
theorem dX12_tryWorth_24 : decode cX12_tryWorth 24 = .ok (.return_, 1) := by decide +kernel
theorem dX12_tryWorth_25 : decode cX12_tryWorth 25 = .ok (.aload_n 0, 1) := by decide +kernel
theorem dX12_tryWorth_26 : decode cX12_tryWorth 26 = .ok (.iload_n 2, 1) := by decide +kernel
theorem dX12_tryWorth_27 : decode cX12_tryWorth 27 = .ok (.putfield 338, 3) := by decide +kernel
theorem dX12_tryWorth_30 : decode cX12_tryWorth 30 = .ok (.aload_n 0, 1) := by decide +kernel
theorem dX12_tryWorth_31 : decode cX12_tryWorth 31 = .ok (.aload_n 0, 1) := by decide +kernel
theorem dX12_tryWorth_32 : decode cX12_tryWorth 32 = .ok (.getfield 66, 3) := by decide +kernel
theorem dX12_tryWorth_35 : decode cX12_tryWorth 35 = .ok (.invokevirtual 325, 3) := by decide +kernel
theorem dX12_tryWorth_38 : decode cX12_tryWorth 38 = .ok (.return_, 1) := by decide +kernel
theorem dX12_tryWorth_39 : decode cX12_tryWorth 39 = .ok (.aload_n 0, 1) := by decide +kernel
theorem dX12_tryWorth_40 : decode cX12_tryWorth 40 = .ok (.getfield 45, 3) := by decide +kernel
theorem dX12_tryWorth_43 : decode cX12_tryWorth 43 = .ok (.iload_n 1, 1) := by decide +kernel
theorem dX12_tryWorth_44 : decode cX12_tryWorth 44 = .ok (.iaload, 1) := by decide +kernel
theorem dX12_tryWorth_45 : decode cX12_tryWorth 45 = .ok (.istore_n 3, 1) := by decide +kernel
theorem dX12_tryWorth_46 : decode cX12_tryWorth 46 = .ok (.iconst 0, 1) := by decide +kernel
theorem dX12_tryWorth_47 : decode cX12_tryWorth 47 = .ok (.istore 4, 2) := by decide +kernel
theorem dX12_tryWorth_49 : decode cX12_tryWorth 49 = .ok (.iload 4, 2) := by decide +kernel
theorem dX12_tryWorth_51 : decode cX12_tryWorth 51 = .ok (.aload_n 0, 1) := by decide +kernel
theorem dX12_tryWorth_52 : decode cX12_tryWorth 52 = .ok (.getfield 13, 3) := by decide +kernel
theorem dX12_tryWorth_55 : decode cX12_tryWorth 55 = .ok (.iconst 2, 1) := by decide +kernel
theorem dX12_tryWorth_56 : decode cX12_tryWorth 56 = .ok (.iaload, 1) := by decide +kernel
theorem dX12_tryWorth_57 : decode cX12_tryWorth 57 = .ok (.if_icmp .ge 90, 3) := by decide +kernel
theorem dX12_tryWorth_60 : decode cX12_tryWorth 60 = .ok (.iconst 0, 1) := by decide +kernel
theorem dX12_tryWorth_61 : decode cX12_tryWorth 61 = .ok (.istore 5, 2) := by decide +kernel
theorem dX12_tryWorth_63 : decode cX12_tryWorth 63 = .ok (.iload 5, 2) := by decide +kernel
theorem dX12_tryWorth_65 : decode cX12_tryWorth 65 = .ok (.iconst 4, 1) := by decide +kernel
