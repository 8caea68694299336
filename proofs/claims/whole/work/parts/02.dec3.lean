theorem dX11_operand_312 : decode cX11_operand 312 = .ok (.aload_n 0, 1) := by decide +kernel
theorem dX11_operand_313 : decode cX11_operand 313 = .ok (.iconst 1, 1) := by decide +kernel
theorem dX11_operand_314 : decode cX11_operand 314 = .ok (.aload_n 0, 1) := by decide +kernel
theorem dX11_operand_315 : decode cX11_operand 315 = .ok (.getfield 23, 3) := by decide +kernel
theorem dX11_operand_318 : decode cX11_operand 318 = .ok (.invokevirtual 249, 3) := by decide +kernel
theorem dX11_operand_321 : decode cX11_operand 321 = .ok (.aload_n 0, 1) := by decide +kernel
theorem dX11_operand_322 : decode cX11_operand 322 = .ok (.getfield 36, 3) := by decide +kernel
theorem dX11_operand_325 : decode cX11_operand 325 = .ok (.ifCond .le 5, 3) := by decide +kernel
theorem dX11_operand_328 : decode cX11_operand 328 = .ok (.iconst 1, 1) := by decide +kernel
theorem dX11_operand_329 : decode cX11_operand 329 = .ok (.ireturn, 1) := by decide +kernel
theorem dX11_operand_330 : decode cX11_operand 330 = .ok (.aload_n 0, 1) := by decide +kernel
theorem dX11_operand_331 : decode cX11_operand 331 = .ok (.iload_n 3, 1) := by decide +kernel
theorem dX11_operand_332 : decode cX11_operand 332 = .ok (.aload_n 0, 1) := by decide +kernel
theorem dX11_operand_333 : decode cX11_operand 333 = .ok (.getfield 29, 3) := by decide +kernel
theorem dX11_operand_336 : decode cX11_operand 336 = .ok (.invokevirtual 316, 3) := by decide +kernel
theorem dX11_operand_339 : decode cX11_operand 339 = .ok (.aload_n 0, 1) := by decide +kernel
theorem dX11_operand_340 : decode cX11_operand 340 = .ok (.invokevirtual 256, 3) := by decide +kernel
theorem dX11_operand_343 : decode cX11_operand 343 = .ok (.iconst 1, 1) := by decide +kernel
theorem dX11_operand_344 : decode cX11_operand 344 = .ok (.ireturn, 1) := by decide +kernel
theorem dX11_goesOn_0 : decode cX11_goesOn 0 = .ok (.aload_n 0, 1) := by decide +kernel
theorem dX11_goesOn_1 : decode cX11_goesOn 1 = .ok (.getfield 146, 3) := by decide +kernel
theorem dX11_goesOn_4 : decode cX11_goesOn 4 = .ok (.iconst 1, 1) := by decide +kernel
theorem dX11_goesOn_5 : decode cX11_goesOn 5 = .ok (.isub, 1) := by decide +kernel
theorem dX11_goesOn_6 : decode cX11_goesOn 6 = .ok (.istore_n 1, 1) := by decide +kernel
theorem dX11_goesOn_7 : decode cX11_goesOn 7 = .ok (.aload_n 0, 1) := by decide +kernel
theorem dX11_goesOn_8 : decode cX11_goesOn 8 = .ok (.getfield 130, 3) := by decide +kernel
theorem dX11_goesOn_11 : decode cX11_goesOn 11 = .ok (.iload_n 1, 1) := by decide +kernel
theorem dX11_goesOn_12 : decode cX11_goesOn 12 = .ok (.iaload, 1) := by decide +kernel
theorem dX11_goesOn_13 : decode cX11_goesOn 13 = .ok (.istore_n 2, 1) := by decide +kernel
theorem dX11_goesOn_14 : decode cX11_goesOn 14 = .ok (.iload_n 2, 1) := by decide +kernel
theorem dX11_goesOn_15 : decode cX11_goesOn 15 = .ok (.invokestatic 322, 3) := by decide +kernel
theorem dX11_goesOn_18 : decode cX11_goesOn 18 = .ok (.istore_n 3, 1) := by decide +kernel
theorem dX11_goesOn_19 : decode cX11_goesOn 19 = .ok (.aload_n 0, 1) := by decide +kernel
theorem dX11_goesOn_20 : decode cX11_goesOn 20 = .ok (.getfield 133, 3) := by decide +kernel
theorem dX11_goesOn_23 : decode cX11_goesOn 23 = .ok (.iload_n 1, 1) := by decide +kernel
theorem dX11_goesOn_24 : decode cX11_goesOn 24 = .ok (.iaload, 1) := by decide +kernel
theorem dX11_goesOn_25 : decode cX11_goesOn 25 = .ok (.iconst 2, 1) := by decide +kernel
theorem dX11_goesOn_26 : decode cX11_goesOn 26 = .ok (.if_icmp .ge 149, 3) := by decide +kernel
theorem dX11_goesOn_29 : decode cX11_goesOn 29 = .ok (.aload_n 0, 1) := by decide +kernel
theorem dX11_goesOn_30 : decode cX11_goesOn 30 = .ok (.bipush 43, 2) := by decide +kernel
theorem dX11_goesOn_32 : decode cX11_goesOn 32 = .ok (.invokevirtual 253, 3) := by decide +kernel
theorem dX11_goesOn_35 : decode cX11_goesOn 35 = .ok (.ifCond .ne 39, 3) := by decide +kernel
theorem dX11_goesOn_38 : decode cX11_goesOn 38 = .ok (.aload_n 0, 1) := by decide +kernel
theorem dX11_goesOn_39 : decode cX11_goesOn 39 = .ok (.bipush 45, 2) := by decide +kernel
theorem dX11_goesOn_41 : decode cX11_goesOn 41 = .ok (.invokevirtual 253, 3) := by decide +kernel
theorem dX11_goesOn_44 : decode cX11_goesOn 44 = .ok (.ifCond .ne 30, 3) := by decide +kernel
theorem dX11_goesOn_47 : decode cX11_goesOn 47 = .ok (.aload_n 0, 1) := by decide +kernel
theorem dX11_goesOn_48 : decode cX11_goesOn 48 = .ok (.bipush 42, 2) := by decide +kernel
theorem dX11_goesOn_50 : decode cX11_goesOn 50 = .ok (.invokevirtual 253, 3) := by decide +kernel
theorem dX11_goesOn_53 : decode cX11_goesOn 53 = .ok (.ifCond .ne 21, 3) := by decide +kernel
theorem dX11_goesOn_56 : decode cX11_goesOn 56 = .ok (.aload_n 0, 1) := by decide +kernel
theorem dX11_goesOn_57 : decode cX11_goesOn 57 = .ok (.bipush 47, 2) := by decide +kernel
theorem dX11_goesOn_59 : decode cX11_goesOn 59 = .ok (.invokevirtual 253, 3) := by decide +kernel
theorem dX11_goesOn_62 : decode cX11_goesOn 62 = .ok (.ifCond .ne 12, 3) := by decide +kernel
theorem dX11_goesOn_65 : decode cX11_goesOn 65 = .ok (.aload_n 0, 1) := by decide +kernel
theorem dX11_goesOn_66 : decode cX11_goesOn 66 = .ok (.bipush 37, 2) := by decide +kernel
theorem dX11_goesOn_68 : decode cX11_goesOn 68 = .ok (.invokevirtual 253, 3) := by decide +kernel
theorem dX11_goesOn_71 : decode cX11_goesOn 71 = .ok (.ifCond .eq 104, 3) := by decide +kernel
theorem dX11_goesOn_74 : decode cX11_goesOn 74 = .ok (.aload_n 0, 1) := by decide +kernel
theorem dX11_goesOn_75 : decode cX11_goesOn 75 = .ok (.aload_n 0, 1) := by decide +kernel
theorem dX11_goesOn_76 : decode cX11_goesOn 76 = .ok (.bipush 43, 2) := by decide +kernel
theorem dX11_goesOn_78 : decode cX11_goesOn 78 = .ok (.invokevirtual 253, 3) := by decide +kernel
theorem dX11_goesOn_81 : decode cX11_goesOn 81 = .ok (.ifCond .ne 12, 3) := by decide +kernel
theorem dX11_goesOn_84 : decode cX11_goesOn 84 = .ok (.aload_n 0, 1) := by decide +kernel
theorem dX11_goesOn_85 : decode cX11_goesOn 85 = .ok (.bipush 45, 2) := by decide +kernel
theorem dX11_goesOn_87 : decode cX11_goesOn 87 = .ok (.invokevirtual 253, 3) := by decide +kernel
theorem dX11_goesOn_90 : decode cX11_goesOn 90 = .ok (.ifCond .eq 7, 3) := by decide +kernel
theorem dX11_goesOn_93 : decode cX11_goesOn 93 = .ok (.iconst 5, 1) := by decide +kernel
theorem dX11_goesOn_94 : decode cX11_goesOn 94 = .ok (.goto 5, 3) := by decide +kernel
theorem dX11_goesOn_97 : decode cX11_goesOn 97 = .ok (.bipush 6, 2) := by decide +kernel
theorem dX11_goesOn_99 : decode cX11_goesOn 99 = .ok (.invokevirtual 335, 3) := by decide +kernel
theorem dX11_goesOn_102 : decode cX11_goesOn 102 = .ok (.aload_n 0, 1) := by decide +kernel
theorem dX11_goesOn_103 : decode cX11_goesOn 103 = .ok (.aload_n 0, 1) := by decide +kernel
theorem dX11_goesOn_104 : decode cX11_goesOn 104 = .ok (.bipush 43, 2) := by decide +kernel
theorem dX11_goesOn_106 : decode cX11_goesOn 106 = .ok (.invokevirtual 253, 3) := by decide +kernel
theorem dX11_goesOn_109 : decode cX11_goesOn 109 = .ok (.ifCond .eq 8, 3) := by decide +kernel
theorem dX11_goesOn_112 : decode cX11_goesOn 112 = .ok (.bipush 10, 2) := by decide +kernel
theorem dX11_goesOn_114 : decode cX11_goesOn 114 = .ok (.goto 47, 3) := by decide +kernel
theorem dX11_goesOn_117 : decode cX11_goesOn 117 = .ok (.aload_n 0, 1) := by decide +kernel
theorem dX11_goesOn_118 : decode cX11_goesOn 118 = .ok (.bipush 45, 2) := by decide +kernel
theorem dX11_goesOn_120 : decode cX11_goesOn 120 = .ok (.invokevirtual 253, 3) := by decide +kernel
theorem dX11_goesOn_123 : decode cX11_goesOn 123 = .ok (.ifCond .eq 8, 3) := by decide +kernel
theorem dX11_goesOn_126 : decode cX11_goesOn 126 = .ok (.bipush 11, 2) := by decide +kernel
theorem dX11_goesOn_128 : decode cX11_goesOn 128 = .ok (.goto 33, 3) := by decide +kernel
theorem dX11_goesOn_131 : decode cX11_goesOn 131 = .ok (.aload_n 0, 1) := by decide +kernel
theorem dX11_goesOn_132 : decode cX11_goesOn 132 = .ok (.bipush 42, 2) := by decide +kernel
theorem dX11_goesOn_134 : decode cX11_goesOn 134 = .ok (.invokevirtual 253, 3) := by decide +kernel
theorem dX11_goesOn_137 : decode cX11_goesOn 137 = .ok (.ifCond .eq 8, 3) := by decide +kernel
theorem dX11_goesOn_140 : decode cX11_goesOn 140 = .ok (.bipush 12, 2) := by decide +kernel
theorem dX11_goesOn_142 : decode cX11_goesOn 142 = .ok (.goto 19, 3) := by decide +kernel
theorem dX11_goesOn_145 : decode cX11_goesOn 145 = .ok (.aload_n 0, 1) := by decide +kernel
theorem dX11_goesOn_146 : decode cX11_goesOn 146 = .ok (.bipush 47, 2) := by decide +kernel
theorem dX11_goesOn_148 : decode cX11_goesOn 148 = .ok (.invokevirtual 253, 3) := by decide +kernel
theorem dX11_goesOn_151 : decode cX11_goesOn 151 = .ok (.ifCond .eq 8, 3) := by decide +kernel
theorem dX11_goesOn_154 : decode cX11_goesOn 154 = .ok (.bipush 13, 2) := by decide +kernel
theorem dX11_goesOn_156 : decode cX11_goesOn 156 = .ok (.goto 5, 3) := by decide +kernel
theorem dX11_goesOn_159 : decode cX11_goesOn 159 = .ok (.bipush 14, 2) := by decide +kernel
theorem dX11_goesOn_161 : decode cX11_goesOn 161 = .ok (.invokevirtual 329, 3) := by decide +kernel
theorem dX11_goesOn_164 : decode cX11_goesOn 164 = .ok (.aload_n 0, 1) := by decide +kernel
theorem dX11_goesOn_165 : decode cX11_goesOn 165 = .ok (.invokevirtual 256, 3) := by decide +kernel
theorem dX11_goesOn_168 : decode cX11_goesOn 168 = .ok (.aload_n 0, 1) := by decide +kernel
theorem dX11_goesOn_169 : decode cX11_goesOn 169 = .ok (.iconst 0, 1) := by decide +kernel
theorem dX11_goesOn_170 : decode cX11_goesOn 170 = .ok (.putfield 158, 3) := by decide +kernel
theorem dX11_goesOn_173 : decode cX11_goesOn 173 = .ok (.iconst 1, 1) := by decide +kernel
theorem dX11_goesOn_174 : decode cX11_goesOn 174 = .ok (.ireturn, 1) := by decide +kernel
theorem dX11_goesOn_175 : decode cX11_goesOn 175 = .ok (.iload_n 3, 1) := by decide +kernel
theorem dX11_goesOn_176 : decode cX11_goesOn 176 = .ok (.ifCond .eq 96, 3) := by decide +kernel
theorem dX11_goesOn_179 : decode cX11_goesOn 179 = .ok (.aload_n 0, 1) := by decide +kernel
theorem dX11_goesOn_180 : decode cX11_goesOn 180 = .ok (.getfield 133, 3) := by decide +kernel
theorem dX11_goesOn_183 : decode cX11_goesOn 183 = .ok (.iload_n 1, 1) := by decide +kernel
theorem dX11_goesOn_184 : decode cX11_goesOn 184 = .ok (.iaload, 1) := by decide +kernel
theorem dX11_goesOn_185 : decode cX11_goesOn 185 = .ok (.ifCond .ne 87, 3) := by decide +kernel
theorem dX11_goesOn_188 : decode cX11_goesOn 188 = .ok (.aload_n 0, 1) := by decide +kernel
theorem dX11_goesOn_189 : decode cX11_goesOn 189 = .ok (.bipush 60, 2) := by decide +kernel
theorem dX11_goesOn_191 : decode cX11_goesOn 191 = .ok (.invokevirtual 253, 3) := by decide +kernel
theorem dX11_goesOn_194 : decode cX11_goesOn 194 = .ok (.ifCond .ne 21, 3) := by decide +kernel
theorem dX11_goesOn_197 : decode cX11_goesOn 197 = .ok (.aload_n 0, 1) := by decide +kernel
theorem dX11_goesOn_198 : decode cX11_goesOn 198 = .ok (.bipush 62, 2) := by decide +kernel
theorem dX11_goesOn_200 : decode cX11_goesOn 200 = .ok (.invokevirtual 253, 3) := by decide +kernel
theorem dX11_goesOn_203 : decode cX11_goesOn 203 = .ok (.ifCond .ne 12, 3) := by decide +kernel
theorem dX11_goesOn_206 : decode cX11_goesOn 206 = .ok (.aload_n 0, 1) := by decide +kernel
theorem dX11_goesOn_207 : decode cX11_goesOn 207 = .ok (.bipush 61, 2) := by decide +kernel
theorem dX11_goesOn_209 : decode cX11_goesOn 209 = .ok (.invokevirtual 253, 3) := by decide +kernel
theorem dX11_goesOn_212 : decode cX11_goesOn 212 = .ok (.ifCond .eq 60, 3) := by decide +kernel
theorem dX11_goesOn_215 : decode cX11_goesOn 215 = .ok (.aload_n 0, 1) := by decide +kernel
theorem dX11_goesOn_216 : decode cX11_goesOn 216 = .ok (.iconst 5, 1) := by decide +kernel
theorem dX11_goesOn_217 : decode cX11_goesOn 217 = .ok (.invokevirtual 335, 3) := by decide +kernel
theorem dX11_goesOn_220 : decode cX11_goesOn 220 = .ok (.aload_n 0, 1) := by decide +kernel
theorem dX11_goesOn_221 : decode cX11_goesOn 221 = .ok (.aload_n 0, 1) := by decide +kernel
theorem dX11_goesOn_222 : decode cX11_goesOn 222 = .ok (.bipush 60, 2) := by decide +kernel
theorem dX11_goesOn_224 : decode cX11_goesOn 224 = .ok (.invokevirtual 253, 3) := by decide +kernel
theorem dX11_goesOn_227 : decode cX11_goesOn 227 = .ok (.ifCond .eq 8, 3) := by decide +kernel
theorem dX11_goesOn_230 : decode cX11_goesOn 230 = .ok (.bipush 17, 2) := by decide +kernel
theorem dX11_goesOn_232 : decode cX11_goesOn 232 = .ok (.goto 19, 3) := by decide +kernel
theorem dX11_goesOn_235 : decode cX11_goesOn 235 = .ok (.aload_n 0, 1) := by decide +kernel
theorem dX11_goesOn_236 : decode cX11_goesOn 236 = .ok (.bipush 62, 2) := by decide +kernel
theorem dX11_goesOn_238 : decode cX11_goesOn 238 = .ok (.invokevirtual 253, 3) := by decide +kernel
theorem dX11_goesOn_241 : decode cX11_goesOn 241 = .ok (.ifCond .eq 8, 3) := by decide +kernel
theorem dX11_goesOn_244 : decode cX11_goesOn 244 = .ok (.bipush 18, 2) := by decide +kernel
theorem dX11_goesOn_246 : decode cX11_goesOn 246 = .ok (.goto 5, 3) := by decide +kernel
theorem dX11_goesOn_249 : decode cX11_goesOn 249 = .ok (.bipush 19, 2) := by decide +kernel
theorem dX11_goesOn_251 : decode cX11_goesOn 251 = .ok (.invokevirtual 329, 3) := by decide +kernel
theorem dX11_goesOn_254 : decode cX11_goesOn 254 = .ok (.aload_n 0, 1) := by decide +kernel
theorem dX11_goesOn_255 : decode cX11_goesOn 255 = .ok (.getfield 133, 3) := by decide +kernel
theorem dX11_goesOn_258 : decode cX11_goesOn 258 = .ok (.iload_n 1, 1) := by decide +kernel
theorem dX11_goesOn_259 : decode cX11_goesOn 259 = .ok (.iconst 1, 1) := by decide +kernel
theorem dX11_goesOn_260 : decode cX11_goesOn 260 = .ok (.iastore, 1) := by decide +kernel
theorem dX11_goesOn_261 : decode cX11_goesOn 261 = .ok (.aload_n 0, 1) := by decide +kernel
theorem dX11_goesOn_262 : decode cX11_goesOn 262 = .ok (.invokevirtual 256, 3) := by decide +kernel
theorem dX11_goesOn_265 : decode cX11_goesOn 265 = .ok (.aload_n 0, 1) := by decide +kernel
theorem dX11_goesOn_266 : decode cX11_goesOn 266 = .ok (.iconst 0, 1) := by decide +kernel
theorem dX11_goesOn_267 : decode cX11_goesOn 267 = .ok (.putfield 158, 3) := by decide +kernel
theorem dX11_goesOn_270 : decode cX11_goesOn 270 = .ok (.iconst 1, 1) := by decide +kernel
theorem dX11_goesOn_271 : decode cX11_goesOn 271 = .ok (.ireturn, 1) := by decide +kernel
theorem dX11_goesOn_272 : decode cX11_goesOn 272 = .ok (.iload_n 3, 1) := by decide +kernel
theorem dX11_goesOn_273 : decode cX11_goesOn 273 = .ok (.ifCond .eq 114, 3) := by decide +kernel
theorem dX11_goesOn_276 : decode cX11_goesOn 276 = .ok (.aload_n 0, 1) := by decide +kernel
theorem dX11_goesOn_277 : decode cX11_goesOn 277 = .ok (.ldc2_w 289, 3) := by decide +kernel
theorem dX11_goesOn_280 : decode cX11_goesOn 280 = .ok (.invokevirtual 325, 3) := by decide +kernel
theorem dX11_goesOn_283 : decode cX11_goesOn 283 = .ok (.ifCond .ne 13, 3) := by decide +kernel
theorem dX11_goesOn_286 : decode cX11_goesOn 286 = .ok (.aload_n 0, 1) := by decide +kernel
theorem dX11_goesOn_287 : decode cX11_goesOn 287 = .ok (.ldc2_w 287, 3) := by decide +kernel
theorem dX11_goesOn_290 : decode cX11_goesOn 290 = .ok (.invokevirtual 325, 3) := by decide +kernel
theorem dX11_goesOn_293 : decode cX11_goesOn 293 = .ok (.ifCond .eq 94, 3) := by decide +kernel
theorem dX11_goesOn_296 : decode cX11_goesOn 296 = .ok (.aload_n 0, 1) := by decide +kernel
theorem dX11_goesOn_297 : decode cX11_goesOn 297 = .ok (.getfield 133, 3) := by decide +kernel
theorem dX11_goesOn_300 : decode cX11_goesOn 300 = .ok (.iload_n 1, 1) := by decide +kernel
theorem dX11_goesOn_301 : decode cX11_goesOn 301 = .ok (.iaload, 1) := by decide +kernel
theorem dX11_goesOn_302 : decode cX11_goesOn 302 = .ok (.ifCond .ne 12, 3) := by decide +kernel
theorem dX11_goesOn_305 : decode cX11_goesOn 305 = .ok (.aload_n 0, 1) := by decide +kernel
theorem dX11_goesOn_306 : decode cX11_goesOn 306 = .ok (.iconst 1, 1) := by decide +kernel
theorem dX11_goesOn_307 : decode cX11_goesOn 307 = .ok (.aload_n 0, 1) := by decide +kernel
theorem dX11_goesOn_308 : decode cX11_goesOn 308 = .ok (.getfield 23, 3) := by decide +kernel
theorem dX11_goesOn_311 : decode cX11_goesOn 311 = .ok (.invokevirtual 249, 3) := by decide +kernel
theorem dX11_goesOn_314 : decode cX11_goesOn 314 = .ok (.aload_n 0, 1) := by decide +kernel
theorem dX11_goesOn_315 : decode cX11_goesOn 315 = .ok (.getfield 36, 3) := by decide +kernel
theorem dX11_goesOn_318 : decode cX11_goesOn 318 = .ok (.ifCond .le 5, 3) := by decide +kernel
theorem dX11_goesOn_321 : decode cX11_goesOn 321 = .ok (.iconst 0, 1) := by decide +kernel
theorem dX11_goesOn_322 : decode cX11_goesOn 322 = .ok (.ireturn, 1) := by decide +kernel
theorem dX11_goesOn_323 : decode cX11_goesOn 323 = .ok (.aload_n 0, 1) := by decide +kernel
theorem dX11_goesOn_324 : decode cX11_goesOn 324 = .ok (.ldc2_w 289, 3) := by decide +kernel
theorem dX11_goesOn_327 : decode cX11_goesOn 327 = .ok (.invokevirtual 325, 3) := by decide +kernel
theorem dX11_goesOn_330 : decode cX11_goesOn 330 = .ok (.istore 4, 2) := by decide +kernel
theorem dX11_goesOn_332 : decode cX11_goesOn 332 = .ok (.aload_n 0, 1) := by decide +kernel
theorem dX11_goesOn_333 : decode cX11_goesOn 333 = .ok (.iload 4, 2) := by decide +kernel
theorem dX11_goesOn_335 : decode cX11_goesOn 335 = .ok (.ifCond .eq 7, 3) := by decide +kernel
theorem dX11_goesOn_338 : decode cX11_goesOn 338 = .ok (.iconst 2, 1) := by decide +kernel
theorem dX11_goesOn_339 : decode cX11_goesOn 339 = .ok (.goto 4, 3) := by decide +kernel
theorem dX11_goesOn_342 : decode cX11_goesOn 342 = .ok (.iconst 1, 1) := by decide +kernel
theorem dX11_goesOn_343 : decode cX11_goesOn 343 = .ok (.invokevirtual 335, 3) := by decide +kernel
theorem dX11_goesOn_346 : decode cX11_goesOn 346 = .ok (.aload_n 0, 1) := by decide +kernel
theorem dX11_goesOn_347 : decode cX11_goesOn 347 = .ok (.iload 4, 2) := by decide +kernel
theorem dX11_goesOn_349 : decode cX11_goesOn 349 = .ok (.ifCond .eq 8, 3) := by decide +kernel
theorem dX11_goesOn_352 : decode cX11_goesOn 352 = .ok (.bipush 20, 2) := by decide +kernel
theorem dX11_goesOn_354 : decode cX11_goesOn 354 = .ok (.goto 5, 3) := by decide +kernel
theorem dX11_goesOn_357 : decode cX11_goesOn 357 = .ok (.bipush 21, 2) := by decide +kernel
theorem dX11_goesOn_359 : decode cX11_goesOn 359 = .ok (.invokevirtual 329, 3) := by decide +kernel
theorem dX11_goesOn_362 : decode cX11_goesOn 362 = .ok (.aload_n 0, 1) := by decide +kernel
theorem dX11_goesOn_363 : decode cX11_goesOn 363 = .ok (.getfield 133, 3) := by decide +kernel
theorem dX11_goesOn_366 : decode cX11_goesOn 366 = .ok (.iload_n 1, 1) := by decide +kernel
theorem dX11_goesOn_367 : decode cX11_goesOn 367 = .ok (.iconst 0, 1) := by decide +kernel
theorem dX11_goesOn_368 : decode cX11_goesOn 368 = .ok (.iastore, 1) := by decide +kernel
theorem dX11_goesOn_369 : decode cX11_goesOn 369 = .ok (.aload_n 0, 1) := by decide +kernel
theorem dX11_goesOn_370 : decode cX11_goesOn 370 = .ok (.getfield 136, 3) := by decide +kernel
theorem dX11_goesOn_373 : decode cX11_goesOn 373 = .ok (.iload_n 1, 1) := by decide +kernel
theorem dX11_goesOn_374 : decode cX11_goesOn 374 = .ok (.iconst 1, 1) := by decide +kernel
theorem dX11_goesOn_375 : decode cX11_goesOn 375 = .ok (.bastore, 1) := by decide +kernel
theorem dX11_goesOn_376 : decode cX11_goesOn 376 = .ok (.aload_n 0, 1) := by decide +kernel
theorem dX11_goesOn_377 : decode cX11_goesOn 377 = .ok (.invokevirtual 256, 3) := by decide +kernel
theorem dX11_goesOn_380 : decode cX11_goesOn 380 = .ok (.aload_n 0, 1) := by decide +kernel
theorem dX11_goesOn_381 : decode cX11_goesOn 381 = .ok (.iconst 0, 1) := by decide +kernel
theorem dX11_goesOn_382 : decode cX11_goesOn 382 = .ok (.putfield 158, 3) := by decide +kernel
theorem dX11_goesOn_385 : decode cX11_goesOn 385 = .ok (.iconst 1, 1) := by decide +kernel
theorem dX11_goesOn_386 : decode cX11_goesOn 386 = .ok (.ireturn, 1) := by decide +kernel
theorem dX11_goesOn_387 : decode cX11_goesOn 387 = .ok (.iload_n 3, 1) := by decide +kernel
theorem dX11_goesOn_388 : decode cX11_goesOn 388 = .ok (.ifCond .eq 21, 3) := by decide +kernel
theorem dX11_goesOn_391 : decode cX11_goesOn 391 = .ok (.aload_n 0, 1) := by decide +kernel
theorem dX11_goesOn_392 : decode cX11_goesOn 392 = .ok (.getfield 133, 3) := by decide +kernel
theorem dX11_goesOn_395 : decode cX11_goesOn 395 = .ok (.iload_n 1, 1) := by decide +kernel
theorem dX11_goesOn_396 : decode cX11_goesOn 396 = .ok (.iaload, 1) := by decide +kernel
theorem dX11_goesOn_397 : decode cX11_goesOn 397 = .ok (.ifCond .ne 12, 3) := by decide +kernel
theorem dX11_goesOn_400 : decode cX11_goesOn 400 = .ok (.aload_n 0, 1) := by decide +kernel
theorem dX11_goesOn_401 : decode cX11_goesOn 401 = .ok (.iconst 1, 1) := by decide +kernel
theorem dX11_goesOn_402 : decode cX11_goesOn 402 = .ok (.aload_n 0, 1) := by decide +kernel
theorem dX11_goesOn_403 : decode cX11_goesOn 403 = .ok (.getfield 23, 3) := by decide +kernel
theorem dX11_goesOn_406 : decode cX11_goesOn 406 = .ok (.invokevirtual 249, 3) := by decide +kernel
theorem dX11_goesOn_409 : decode cX11_goesOn 409 = .ok (.iload_n 2, 1) := by decide +kernel
theorem dX11_goesOn_410 : decode cX11_goesOn 410 = .ok (.iconst 2, 1) := by decide +kernel
theorem dX11_goesOn_411 : decode cX11_goesOn 411 = .ok (.if_icmp .ge 17, 3) := by decide +kernel
theorem dX11_goesOn_414 : decode cX11_goesOn 414 = .ok (.aload_n 0, 1) := by decide +kernel
theorem dX11_goesOn_415 : decode cX11_goesOn 415 = .ok (.getfield 36, 3) := by decide +kernel
theorem dX11_goesOn_418 : decode cX11_goesOn 418 = .ok (.ifCond .ne 8, 3) := by decide +kernel
theorem dX11_goesOn_421 : decode cX11_goesOn 421 = .ok (.aload_n 0, 1) := by decide +kernel
theorem dX11_goesOn_422 : decode cX11_goesOn 422 = .ok (.iconst 1, 1) := by decide +kernel
theorem dX11_goesOn_423 : decode cX11_goesOn 423 = .ok (.invokevirtual 335, 3) := by decide +kernel
theorem dX11_goesOn_426 : decode cX11_goesOn 426 = .ok (.iconst 0, 1) := by decide +kernel
theorem dX11_goesOn_427 : decode cX11_goesOn 427 = .ok (.ireturn, 1) := by decide +kernel
theorem dX11_goesOn_428 : decode cX11_goesOn 428 = .ok (.iload_n 2, 1) := by decide +kernel
theorem dX11_goesOn_429 : decode cX11_goesOn 429 = .ok (.iconst 3, 1) := by decide +kernel
theorem dX11_goesOn_430 : decode cX11_goesOn 430 = .ok (.if_icmp .ne 53, 3) := by decide +kernel
theorem dX11_goesOn_433 : decode cX11_goesOn 433 = .ok (.aload_n 0, 1) := by decide +kernel
theorem dX11_goesOn_434 : decode cX11_goesOn 434 = .ok (.bipush 44, 2) := by decide +kernel
theorem dX11_goesOn_436 : decode cX11_goesOn 436 = .ok (.invokevirtual 253, 3) := by decide +kernel
theorem dX11_goesOn_439 : decode cX11_goesOn 439 = .ok (.ifCond .ne 12, 3) := by decide +kernel
theorem dX11_goesOn_442 : decode cX11_goesOn 442 = .ok (.aload_n 0, 1) := by decide +kernel
theorem dX11_goesOn_443 : decode cX11_goesOn 443 = .ok (.iconst 1, 1) := by decide +kernel
theorem dX11_goesOn_444 : decode cX11_goesOn 444 = .ok (.aload_n 0, 1) := by decide +kernel
theorem dX11_goesOn_445 : decode cX11_goesOn 445 = .ok (.getfield 23, 3) := by decide +kernel
theorem dX11_goesOn_448 : decode cX11_goesOn 448 = .ok (.invokevirtual 249, 3) := by decide +kernel
theorem dX11_goesOn_451 : decode cX11_goesOn 451 = .ok (.aload_n 0, 1) := by decide +kernel
theorem dX11_goesOn_452 : decode cX11_goesOn 452 = .ok (.getfield 36, 3) := by decide +kernel
theorem dX11_goesOn_455 : decode cX11_goesOn 455 = .ok (.ifCond .le 5, 3) := by decide +kernel
theorem dX11_goesOn_458 : decode cX11_goesOn 458 = .ok (.iconst 0, 1) := by decide +kernel
theorem dX11_goesOn_459 : decode cX11_goesOn 459 = .ok (.ireturn, 1) := by decide +kernel
theorem dX11_goesOn_460 : decode cX11_goesOn 460 = .ok (.aload_n 0, 1) := by decide +kernel
theorem dX11_goesOn_461 : decode cX11_goesOn 461 = .ok (.iconst 1, 1) := by decide +kernel
theorem dX11_goesOn_462 : decode cX11_goesOn 462 = .ok (.invokevirtual 335, 3) := by decide +kernel
theorem dX11_goesOn_465 : decode cX11_goesOn 465 = .ok (.aload_n 0, 1) := by decide +kernel
theorem dX11_goesOn_466 : decode cX11_goesOn 466 = .ok (.getfield 130, 3) := by decide +kernel
theorem dX11_goesOn_469 : decode cX11_goesOn 469 = .ok (.iload_n 1, 1) := by decide +kernel
theorem dX11_goesOn_470 : decode cX11_goesOn 470 = .ok (.iconst 4, 1) := by decide +kernel
theorem dX11_goesOn_471 : decode cX11_goesOn 471 = .ok (.iastore, 1) := by decide +kernel
theorem dX11_goesOn_472 : decode cX11_goesOn 472 = .ok (.aload_n 0, 1) := by decide +kernel
theorem dX11_goesOn_473 : decode cX11_goesOn 473 = .ok (.invokevirtual 256, 3) := by decide +kernel
theorem dX11_goesOn_476 : decode cX11_goesOn 476 = .ok (.aload_n 0, 1) := by decide +kernel
theorem dX11_goesOn_477 : decode cX11_goesOn 477 = .ok (.iconst 0, 1) := by decide +kernel
theorem dX11_goesOn_478 : decode cX11_goesOn 478 = .ok (.putfield 158, 3) := by decide +kernel
theorem dX11_goesOn_481 : decode cX11_goesOn 481 = .ok (.iconst 1, 1) := by decide +kernel
theorem dX11_goesOn_482 : decode cX11_goesOn 482 = .ok (.ireturn, 1) := by decide +kernel
theorem dX11_goesOn_483 : decode cX11_goesOn 483 = .ok (.aload_n 0, 1) := by decide +kernel
theorem dX11_goesOn_484 : decode cX11_goesOn 484 = .ok (.iload_n 2, 1) := by decide +kernel
theorem dX11_goesOn_485 : decode cX11_goesOn 485 = .ok (.iconst 5, 1) := by decide +kernel
theorem dX11_goesOn_486 : decode cX11_goesOn 486 = .ok (.if_icmp .ne 8, 3) := by decide +kernel
theorem dX11_goesOn_489 : decode cX11_goesOn 489 = .ok (.bipush 93, 2) := by decide +kernel
theorem dX11_goesOn_491 : decode cX11_goesOn 491 = .ok (.goto 5, 3) := by decide +kernel
theorem dX11_goesOn_494 : decode cX11_goesOn 494 = .ok (.bipush 41, 2) := by decide +kernel
theorem dX11_goesOn_496 : decode cX11_goesOn 496 = .ok (.invokevirtual 253, 3) := by decide +kernel
theorem dX11_goesOn_499 : decode cX11_goesOn 499 = .ok (.ifCond .ne 12, 3) := by decide +kernel
theorem dX11_goesOn_502 : decode cX11_goesOn 502 = .ok (.aload_n 0, 1) := by decide +kernel
theorem dX11_goesOn_503 : decode cX11_goesOn 503 = .ok (.iconst 1, 1) := by decide +kernel
theorem dX11_goesOn_504 : decode cX11_goesOn 504 = .ok (.aload_n 0, 1) := by decide +kernel
theorem dX11_goesOn_505 : decode cX11_goesOn 505 = .ok (.getfield 23, 3) := by decide +kernel
theorem dX11_goesOn_508 : decode cX11_goesOn 508 = .ok (.invokevirtual 249, 3) := by decide +kernel
theorem dX11_goesOn_511 : decode cX11_goesOn 511 = .ok (.aload_n 0, 1) := by decide +kernel
theorem dX11_goesOn_512 : decode cX11_goesOn 512 = .ok (.getfield 36, 3) := by decide +kernel
theorem dX11_goesOn_515 : decode cX11_goesOn 515 = .ok (.ifCond .le 5, 3) := by decide +kernel
theorem dX11_goesOn_518 : decode cX11_goesOn 518 = .ok (.iconst 0, 1) := by decide +kernel
theorem dX11_goesOn_519 : decode cX11_goesOn 519 = .ok (.ireturn, 1) := by decide +kernel
theorem dX11_goesOn_520 : decode cX11_goesOn 520 = .ok (.aload_n 0, 1) := by decide +kernel
theorem dX11_goesOn_521 : decode cX11_goesOn 521 = .ok (.iconst 1, 1) := by decide +kernel
theorem dX11_goesOn_522 : decode cX11_goesOn 522 = .ok (.invokevirtual 335, 3) := by decide +kernel
theorem dX11_goesOn_525 : decode cX11_goesOn 525 = .ok (.aload_n 0, 1) := by decide +kernel
theorem dX11_goesOn_526 : decode cX11_goesOn 526 = .ok (.dup, 1) := by decide +kernel
theorem dX11_goesOn_527 : decode cX11_goesOn 527 = .ok (.getfield 146, 3) := by decide +kernel
theorem dX11_goesOn_530 : decode cX11_goesOn 530 = .ok (.iconst 1, 1) := by decide +kernel
theorem dX11_goesOn_531 : decode cX11_goesOn 531 = .ok (.isub, 1) := by decide +kernel
theorem dX11_goesOn_532 : decode cX11_goesOn 532 = .ok (.putfield 146, 3) := by decide +kernel
theorem dX11_goesOn_535 : decode cX11_goesOn 535 = .ok (.aload_n 0, 1) := by decide +kernel
theorem dX11_goesOn_536 : decode cX11_goesOn 536 = .ok (.dup, 1) := by decide +kernel
theorem dX11_goesOn_537 : decode cX11_goesOn 537 = .ok (.getfield 149, 3) := by decide +kernel
theorem dX11_goesOn_540 : decode cX11_goesOn 540 = .ok (.iconst 1, 1) := by decide +kernel
theorem dX11_goesOn_541 : decode cX11_goesOn 541 = .ok (.isub, 1) := by decide +kernel
theorem dX11_goesOn_542 : decode cX11_goesOn 542 = .ok (.putfield 149, 3) := by decide +kernel
theorem dX11_goesOn_545 : decode cX11_goesOn 545 = .ok (.iload_n 2, 1) := by decide +kernel
theorem dX11_goesOn_546 : decode cX11_goesOn 546 = .ok (.iconst 4, 1) := by decide +kernel
theorem dX11_goesOn_547 : decode cX11_goesOn 547 = .ok (.if_icmp .ne 14, 3) := by decide +kernel
theorem dX11_goesOn_550 : decode cX11_goesOn 550 = .ok (.aload_n 0, 1) := by decide +kernel
theorem dX11_goesOn_551 : decode cX11_goesOn 551 = .ok (.aload_n 0, 1) := by decide +kernel
theorem dX11_goesOn_552 : decode cX11_goesOn 552 = .ok (.getfield 140, 3) := by decide +kernel
theorem dX11_goesOn_555 : decode cX11_goesOn 555 = .ok (.iload_n 1, 1) := by decide +kernel
theorem dX11_goesOn_556 : decode cX11_goesOn 556 = .ok (.iaload, 1) := by decide +kernel
theorem dX11_goesOn_557 : decode cX11_goesOn 557 = .ok (.iconst 0, 1) := by decide +kernel
theorem dX11_goesOn_558 : decode cX11_goesOn 558 = .ok (.invokevirtual 316, 3) := by decide +kernel
theorem dX11_goesOn_561 : decode cX11_goesOn 561 = .ok (.iload_n 2, 1) := by decide +kernel
theorem dX11_goesOn_562 : decode cX11_goesOn 562 = .ok (.iconst 5, 1) := by decide +kernel
theorem dX11_goesOn_563 : decode cX11_goesOn 563 = .ok (.if_icmp .ne 15, 3) := by decide +kernel
theorem dX11_goesOn_566 : decode cX11_goesOn 566 = .ok (.aload_n 0, 1) := by decide +kernel
theorem dX11_goesOn_567 : decode cX11_goesOn 567 = .ok (.getfield 133, 3) := by decide +kernel
theorem dX11_goesOn_570 : decode cX11_goesOn 570 = .ok (.aload_n 0, 1) := by decide +kernel
theorem dX11_goesOn_571 : decode cX11_goesOn 571 = .ok (.getfield 146, 3) := by decide +kernel
theorem dX11_goesOn_574 : decode cX11_goesOn 574 = .ok (.iconst 1, 1) := by decide +kernel
theorem dX11_goesOn_575 : decode cX11_goesOn 575 = .ok (.isub, 1) := by decide +kernel
theorem dX11_goesOn_576 : decode cX11_goesOn 576 = .ok (.iconst 2, 1) := by decide +kernel
theorem dX11_goesOn_577 : decode cX11_goesOn 577 = .ok (.iastore, 1) := by decide +kernel
theorem dX11_goesOn_578 : decode cX11_goesOn 578 = .ok (.aload_n 0, 1) := by decide +kernel
theorem dX11_goesOn_579 : decode cX11_goesOn 579 = .ok (.invokevirtual 256, 3) := by decide +kernel
theorem dX11_goesOn_582 : decode cX11_goesOn 582 = .ok (.iconst 1, 1) := by decide +kernel
theorem dX11_goesOn_583 : decode cX11_goesOn 583 = .ok (.ireturn, 1) := by decide +kernel
theorem dX11_reads_0 : decode cX11_reads 0 = .ok (.aload_n 0, 1) := by decide +kernel
theorem dX11_reads_1 : decode cX11_reads 1 = .ok (.getfield 36, 3) := by decide +kernel
theorem dX11_reads_4 : decode cX11_reads 4 = .ok (.ifCond .le 4, 3) := by decide +kernel
theorem dX11_reads_7 : decode cX11_reads 7 = .ok (.return_, 1) := by decide +kernel
theorem dX11_reads_8 : decode cX11_reads 8 = .ok (.aload_n 0, 1) := by decide +kernel
theorem dX11_reads_9 : decode cX11_reads 9 = .ok (.iconst 0, 1) := by decide +kernel
theorem dX11_reads_10 : decode cX11_reads 10 = .ok (.putfield 146, 3) := by decide +kernel
theorem dX11_reads_13 : decode cX11_reads 13 = .ok (.aload_n 0, 1) := by decide +kernel
theorem dX11_reads_14 : decode cX11_reads 14 = .ok (.iconst 0, 1) := by decide +kernel
theorem dX11_reads_15 : decode cX11_reads 15 = .ok (.putfield 149, 3) := by decide +kernel
theorem dX11_reads_18 : decode cX11_reads 18 = .ok (.aload_n 0, 1) := by decide +kernel
theorem dX11_reads_19 : decode cX11_reads 19 = .ok (.iconst 0, 1) := by decide +kernel
theorem dX11_reads_20 : decode cX11_reads 20 = .ok (.putfield 155, 3) := by decide +kernel
theorem dX11_reads_23 : decode cX11_reads 23 = .ok (.aload_n 0, 1) := by decide +kernel
theorem dX11_reads_24 : decode cX11_reads 24 = .ok (.iconst 0, 1) := by decide +kernel
theorem dX11_reads_25 : decode cX11_reads 25 = .ok (.putfield 158, 3) := by decide +kernel
theorem dX11_reads_28 : decode cX11_reads 28 = .ok (.aload_n 0, 1) := by decide +kernel
theorem dX11_reads_29 : decode cX11_reads 29 = .ok (.iload_n 1, 1) := by decide +kernel
theorem dX11_reads_30 : decode cX11_reads 30 = .ok (.ifCond .eq 7, 3) := by decide +kernel
theorem dX11_reads_33 : decode cX11_reads 33 = .ok (.iconst 1, 1) := by decide +kernel
theorem dX11_reads_34 : decode cX11_reads 34 = .ok (.goto 4, 3) := by decide +kernel
theorem dX11_reads_37 : decode cX11_reads 37 = .ok (.iconst 0, 1) := by decide +kernel
theorem dX11_reads_38 : decode cX11_reads 38 = .ok (.invokevirtual 319, 3) := by decide +kernel
theorem dX11_reads_41 : decode cX11_reads 41 = .ok (.iconst 1, 1) := by decide +kernel
theorem dX11_reads_42 : decode cX11_reads 42 = .ok (.istore_n 2, 1) := by decide +kernel
theorem dX11_reads_43 : decode cX11_reads 43 = .ok (.iload_n 2, 1) := by decide +kernel
theorem dX11_reads_44 : decode cX11_reads 44 = .ok (.ifCond .eq 46, 3) := by decide +kernel
theorem dX11_reads_47 : decode cX11_reads 47 = .ok (.aload_n 0, 1) := by decide +kernel
theorem dX11_reads_48 : decode cX11_reads 48 = .ok (.getfield 158, 3) := by decide +kernel
theorem dX11_reads_51 : decode cX11_reads 51 = .ok (.ifCond .ne 14, 3) := by decide +kernel
theorem dX11_reads_54 : decode cX11_reads 54 = .ok (.aload_n 0, 1) := by decide +kernel
theorem dX11_reads_55 : decode cX11_reads 55 = .ok (.aload_n 0, 1) := by decide +kernel
theorem dX11_reads_56 : decode cX11_reads 56 = .ok (.invokevirtual 338, 3) := by decide +kernel
theorem dX11_reads_59 : decode cX11_reads 59 = .ok (.putfield 158, 3) := by decide +kernel
theorem dX11_reads_62 : decode cX11_reads 62 = .ok (.goto 8, 3) := by decide +kernel
theorem dX11_reads_65 : decode cX11_reads 65 = .ok (.aload_n 0, 1) := by decide +kernel
theorem dX11_reads_66 : decode cX11_reads 66 = .ok (.invokevirtual 341, 3) := by decide +kernel
theorem dX11_reads_69 : decode cX11_reads 69 = .ok (.istore_n 2, 1) := by decide +kernel
theorem dX11_reads_70 : decode cX11_reads 70 = .ok (.iload_n 2, 1) := by decide +kernel
theorem dX11_reads_71 : decode cX11_reads 71 = .ok (.ifCond .eq 14, 3) := by decide +kernel
theorem dX11_reads_74 : decode cX11_reads 74 = .ok (.aload_n 0, 1) := by decide +kernel
theorem dX11_reads_75 : decode cX11_reads 75 = .ok (.getfield 36, 3) := by decide +kernel
theorem dX11_reads_78 : decode cX11_reads 78 = .ok (.ifCond .ne 7, 3) := by decide +kernel
theorem dX11_reads_81 : decode cX11_reads 81 = .ok (.iconst 1, 1) := by decide +kernel
theorem dX11_reads_82 : decode cX11_reads 82 = .ok (.goto 4, 3) := by decide +kernel
theorem dX11_reads_85 : decode cX11_reads 85 = .ok (.iconst 0, 1) := by decide +kernel
theorem dX11_reads_86 : decode cX11_reads 86 = .ok (.istore_n 2, 1) := by decide +kernel
theorem dX11_reads_87 : decode cX11_reads 87 = .ok (.goto (-44), 3) := by decide +kernel
theorem dX11_reads_90 : decode cX11_reads 90 = .ok (.return_, 1) := by decide +kernel
theorem dX11_counts_0 : decode cX11_counts 0 = .ok (.aload_n 0, 1) := by decide +kernel
theorem dX11_counts_1 : decode cX11_counts 1 = .ok (.getfield 36, 3) := by decide +kernel
theorem dX11_counts_4 : decode cX11_counts 4 = .ok (.ifCond .ne 16, 3) := by decide +kernel
theorem dX11_counts_7 : decode cX11_counts 7 = .ok (.iload_n 1, 1) := by decide +kernel
theorem dX11_counts_8 : decode cX11_counts 8 = .ok (.ifCond .eq 12, 3) := by decide +kernel
theorem dX11_counts_11 : decode cX11_counts 11 = .ok (.aload_n 0, 1) := by decide +kernel
theorem dX11_counts_12 : decode cX11_counts 12 = .ok (.iconst 5, 1) := by decide +kernel
theorem dX11_counts_13 : decode cX11_counts 13 = .ok (.aload_n 0, 1) := by decide +kernel
theorem dX11_counts_14 : decode cX11_counts 14 = .ok (.getfield 23, 3) := by decide +kernel
theorem dX11_counts_17 : decode cX11_counts 17 = .ok (.invokevirtual 249, 3) := by decide +kernel
theorem dX11_counts_20 : decode cX11_counts 20 = .ok (.aload_n 0, 1) := by decide +kernel
theorem dX11_counts_21 : decode cX11_counts 21 = .ok (.getfield 36, 3) := by decide +kernel
theorem dX11_counts_24 : decode cX11_counts 24 = .ok (.ifCond .ne 7, 3) := by decide +kernel
theorem dX11_counts_27 : decode cX11_counts 27 = .ok (.aload_n 0, 1) := by decide +kernel
theorem dX11_counts_28 : decode cX11_counts 28 = .ok (.invokevirtual 256, 3) := by decide +kernel
theorem dX11_counts_31 : decode cX11_counts 31 = .ok (.aload_n 0, 1) := by decide +kernel
theorem dX11_counts_32 : decode cX11_counts 32 = .ok (.getfield 36, 3) := by decide +kernel
theorem dX11_counts_35 : decode cX11_counts 35 = .ok (.ifCond .ne 7, 3) := by decide +kernel
theorem dX11_counts_38 : decode cX11_counts 38 = .ok (.iconst 1, 1) := by decide +kernel
theorem dX11_counts_39 : decode cX11_counts 39 = .ok (.goto 4, 3) := by decide +kernel
theorem dX11_counts_42 : decode cX11_counts 42 = .ok (.iconst 0, 1) := by decide +kernel
theorem dX11_counts_43 : decode cX11_counts 43 = .ok (.ireturn, 1) := by decide +kernel
theorem dX11_must__0 : decode cX11_must_ 0 = .ok (.aload_n 0, 1) := by decide +kernel
theorem dX11_must__1 : decode cX11_must_ 1 = .ok (.getfield 36, 3) := by decide +kernel
theorem dX11_must__4 : decode cX11_must_ 4 = .ok (.ifCond .le 4, 3) := by decide +kernel
theorem dX11_must__7 : decode cX11_must_ 7 = .ok (.return_, 1) := by decide +kernel
theorem dX11_must__8 : decode cX11_must_ 8 = .ok (.aload_n 0, 1) := by decide +kernel
theorem dX11_must__9 : decode cX11_must_ 9 = .ok (.lload_n 1, 1) := by decide +kernel
theorem dX11_must__10 : decode cX11_must_ 10 = .ok (.invokevirtual 325, 3) := by decide +kernel
theorem dX11_must__13 : decode cX11_must_ 13 = .ok (.ifCond .ne 12, 3) := by decide +kernel
theorem dX11_must__16 : decode cX11_must_ 16 = .ok (.aload_n 0, 1) := by decide +kernel
theorem dX11_must__17 : decode cX11_must_ 17 = .ok (.iconst 1, 1) := by decide +kernel
theorem dX11_must__18 : decode cX11_must_ 18 = .ok (.aload_n 0, 1) := by decide +kernel
theorem dX11_must__19 : decode cX11_must_ 19 = .ok (.getfield 23, 3) := by decide +kernel
theorem dX11_must__22 : decode cX11_must_ 22 = .ok (.invokevirtual 249, 3) := by decide +kernel
theorem dX11_must__25 : decode cX11_must_ 25 = .ok (.aload_n 0, 1) := by decide +kernel
theorem dX11_must__26 : decode cX11_must_ 26 = .ok (.getfield 36, 3) := by decide +kernel
theorem dX11_must__29 : decode cX11_must_ 29 = .ok (.ifCond .ne 7, 3) := by decide +kernel
theorem dX11_must__32 : decode cX11_must_ 32 = .ok (.aload_n 0, 1) := by decide +kernel
theorem dX11_must__33 : decode cX11_must_ 33 = .ok (.invokevirtual 256, 3) := by decide +kernel
theorem dX11_must__36 : decode cX11_must_ 36 = .ok (.return_, 1) := by decide +kernel
theorem dX11_fresh_0 : decode cX11_fresh 0 = .ok (.aload_n 0, 1) := by decide +kernel
theorem dX11_fresh_1 : decode cX11_fresh 1 = .ok (.getfield 36, 3) := by decide +kernel
theorem dX11_fresh_4 : decode cX11_fresh 4 = .ok (.ifCond .le 5, 3) := by decide +kernel
theorem dX11_fresh_7 : decode cX11_fresh 7 = .ok (.lconst 0, 1) := by decide +kernel
theorem dX11_fresh_8 : decode cX11_fresh 8 = .ok (.lreturn, 1) := by decide +kernel
theorem dX11_fresh_9 : decode cX11_fresh 9 = .ok (.aload_n 0, 1) := by decide +kernel
theorem dX11_fresh_10 : decode cX11_fresh 10 = .ok (.getfield 20, 3) := by decide +kernel
theorem dX11_fresh_13 : decode cX11_fresh 13 = .ok (.iconst 1, 1) := by decide +kernel
theorem dX11_fresh_14 : decode cX11_fresh 14 = .ok (.if_icmp .ne 14, 3) := by decide +kernel
theorem dX11_fresh_17 : decode cX11_fresh 17 = .ok (.aload_n 0, 1) := by decide +kernel
theorem dX11_fresh_18 : decode cX11_fresh 18 = .ok (.aload_n 0, 1) := by decide +kernel
theorem dX11_fresh_19 : decode cX11_fresh 19 = .ok (.getfield 32, 3) := by decide +kernel
theorem dX11_fresh_22 : decode cX11_fresh 22 = .ok (.invokevirtual 344, 3) := by decide +kernel
theorem dX11_fresh_25 : decode cX11_fresh 25 = .ok (.ifCond .eq 12, 3) := by decide +kernel
theorem dX11_fresh_28 : decode cX11_fresh 28 = .ok (.aload_n 0, 1) := by decide +kernel
theorem dX11_fresh_29 : decode cX11_fresh 29 = .ok (.iconst 1, 1) := by decide +kernel
theorem dX11_fresh_30 : decode cX11_fresh 30 = .ok (.aload_n 0, 1) := by decide +kernel
theorem dX11_fresh_31 : decode cX11_fresh 31 = .ok (.getfield 23, 3) := by decide +kernel
theorem dX11_fresh_34 : decode cX11_fresh 34 = .ok (.invokevirtual 249, 3) := by decide +kernel
theorem dX11_fresh_37 : decode cX11_fresh 37 = .ok (.iconst 0, 1) := by decide +kernel
theorem dX11_fresh_38 : decode cX11_fresh 38 = .ok (.istore_n 1, 1) := by decide +kernel
theorem dX11_fresh_39 : decode cX11_fresh 39 = .ok (.iload_n 1, 1) := by decide +kernel
theorem dX11_fresh_40 : decode cX11_fresh 40 = .ok (.iconst 2, 1) := by decide +kernel
theorem dX11_fresh_41 : decode cX11_fresh 41 = .ok (.if_icmp .gt 38, 3) := by decide +kernel
theorem dX11_fresh_44 : decode cX11_fresh 44 = .ok (.aload_n 0, 1) := by decide +kernel
theorem dX11_fresh_45 : decode cX11_fresh 45 = .ok (.getfield 36, 3) := by decide +kernel
theorem dX11_fresh_48 : decode cX11_fresh 48 = .ok (.ifCond .ne 31, 3) := by decide +kernel
theorem dX11_fresh_51 : decode cX11_fresh 51 = .ok (.aload_n 0, 1) := by decide +kernel
theorem dX11_fresh_52 : decode cX11_fresh 52 = .ok (.iload_n 1, 1) := by decide +kernel
theorem dX11_fresh_53 : decode cX11_fresh 53 = .ok (.aload_n 0, 1) := by decide +kernel
theorem dX11_fresh_54 : decode cX11_fresh 54 = .ok (.getfield 32, 3) := by decide +kernel
theorem dX11_fresh_57 : decode cX11_fresh 57 = .ok (.invokevirtual 347, 3) := by decide +kernel
theorem dX11_fresh_60 : decode cX11_fresh 60 = .ok (.iconst (-1), 1) := by decide +kernel
theorem dX11_fresh_61 : decode cX11_fresh 61 = .ok (.if_icmp .eq 12, 3) := by decide +kernel
theorem dX11_fresh_64 : decode cX11_fresh 64 = .ok (.aload_n 0, 1) := by decide +kernel
theorem dX11_fresh_65 : decode cX11_fresh 65 = .ok (.iconst 2, 1) := by decide +kernel
theorem dX11_fresh_66 : decode cX11_fresh 66 = .ok (.aload_n 0, 1) := by decide +kernel
theorem dX11_fresh_67 : decode cX11_fresh 67 = .ok (.getfield 23, 3) := by decide +kernel
theorem dX11_fresh_70 : decode cX11_fresh 70 = .ok (.invokevirtual 249, 3) := by decide +kernel
theorem dX11_fresh_73 : decode cX11_fresh 73 = .ok (.iinc 1 1, 3) := by decide +kernel
theorem dX11_fresh_76 : decode cX11_fresh 76 = .ok (.goto (-37), 3) := by decide +kernel
theorem dX11_fresh_79 : decode cX11_fresh 79 = .ok (.aload_n 0, 1) := by decide +kernel
theorem dX11_fresh_80 : decode cX11_fresh 80 = .ok (.getfield 32, 3) := by decide +kernel
theorem dX11_fresh_83 : decode cX11_fresh 83 = .ok (.lstore_n 1, 1) := by decide +kernel
theorem dX11_fresh_84 : decode cX11_fresh 84 = .ok (.aload_n 0, 1) := by decide +kernel
theorem dX11_fresh_85 : decode cX11_fresh 85 = .ok (.getfield 36, 3) := by decide +kernel
theorem dX11_fresh_88 : decode cX11_fresh 88 = .ok (.ifCond .ne 7, 3) := by decide +kernel
theorem dX11_fresh_91 : decode cX11_fresh 91 = .ok (.aload_n 0, 1) := by decide +kernel
theorem dX11_fresh_92 : decode cX11_fresh 92 = .ok (.invokevirtual 256, 3) := by decide +kernel
theorem dX11_fresh_95 : decode cX11_fresh 95 = .ok (.lload_n 1, 1) := by decide +kernel
theorem dX11_fresh_96 : decode cX11_fresh 96 = .ok (.lreturn, 1) := by decide +kernel
theorem dX11_asked_0 : decode cX11_asked 0 = .ok (.aload_n 0, 1) := by decide +kernel
theorem dX11_asked_1 : decode cX11_asked 1 = .ok (.getfield 36, 3) := by decide +kernel
theorem dX11_asked_4 : decode cX11_asked 4 = .ok (.ifCond .le 5, 3) := by decide +kernel
theorem dX11_asked_7 : decode cX11_asked 7 = .ok (.iconst 0, 1) := by decide +kernel
theorem dX11_asked_8 : decode cX11_asked 8 = .ok (.ireturn, 1) := by decide +kernel
theorem dX11_asked_9 : decode cX11_asked 9 = .ok (.aload_n 0, 1) := by decide +kernel
theorem dX11_asked_10 : decode cX11_asked 10 = .ok (.getfield 20, 3) := by decide +kernel
theorem dX11_asked_13 : decode cX11_asked 13 = .ok (.iconst 1, 1) := by decide +kernel
theorem dX11_asked_14 : decode cX11_asked 14 = .ok (.if_icmp .ne 14, 3) := by decide +kernel
theorem dX11_asked_17 : decode cX11_asked 17 = .ok (.aload_n 0, 1) := by decide +kernel
theorem dX11_asked_18 : decode cX11_asked 18 = .ok (.aload_n 0, 1) := by decide +kernel
theorem dX11_asked_19 : decode cX11_asked 19 = .ok (.getfield 32, 3) := by decide +kernel
theorem dX11_asked_22 : decode cX11_asked 22 = .ok (.invokevirtual 344, 3) := by decide +kernel
theorem dX11_asked_25 : decode cX11_asked 25 = .ok (.ifCond .eq 12, 3) := by decide +kernel
theorem dX11_asked_28 : decode cX11_asked 28 = .ok (.aload_n 0, 1) := by decide +kernel
theorem dX11_asked_29 : decode cX11_asked 29 = .ok (.iconst 1, 1) := by decide +kernel
theorem dX11_asked_30 : decode cX11_asked 30 = .ok (.aload_n 0, 1) := by decide +kernel
theorem dX11_asked_31 : decode cX11_asked 31 = .ok (.getfield 23, 3) := by decide +kernel
theorem dX11_asked_34 : decode cX11_asked 34 = .ok (.invokevirtual 249, 3) := by decide +kernel
theorem dX11_asked_37 : decode cX11_asked 37 = .ok (.aload_n 0, 1) := by decide +kernel
theorem dX11_asked_38 : decode cX11_asked 38 = .ok (.getfield 36, 3) := by decide +kernel
theorem dX11_asked_41 : decode cX11_asked 41 = .ok (.ifCond .le 7, 3) := by decide +kernel
theorem dX11_asked_44 : decode cX11_asked 44 = .ok (.iconst 0, 1) := by decide +kernel
theorem dX11_asked_45 : decode cX11_asked 45 = .ok (.goto 12, 3) := by decide +kernel
theorem dX11_asked_48 : decode cX11_asked 48 = .ok (.aload_n 0, 1) := by decide +kernel
theorem dX11_asked_49 : decode cX11_asked 49 = .ok (.iload_n 1, 1) := by decide +kernel
theorem dX11_asked_50 : decode cX11_asked 50 = .ok (.aload_n 0, 1) := by decide +kernel
theorem dX11_asked_51 : decode cX11_asked 51 = .ok (.getfield 32, 3) := by decide +kernel
theorem dX11_asked_54 : decode cX11_asked 54 = .ok (.invokevirtual 347, 3) := by decide +kernel
theorem dX11_asked_57 : decode cX11_asked 57 = .ok (.istore_n 2, 1) := by decide +kernel
theorem dX11_asked_58 : decode cX11_asked 58 = .ok (.aload_n 0, 1) := by decide +kernel
theorem dX11_asked_59 : decode cX11_asked 59 = .ok (.getfield 36, 3) := by decide +kernel
theorem dX11_asked_62 : decode cX11_asked 62 = .ok (.ifCond .ne 17, 3) := by decide +kernel
theorem dX11_asked_65 : decode cX11_asked 65 = .ok (.iload_n 2, 1) := by decide +kernel
theorem dX11_asked_66 : decode cX11_asked 66 = .ok (.iconst (-1), 1) := by decide +kernel
theorem dX11_asked_67 : decode cX11_asked 67 = .ok (.if_icmp .ne 12, 3) := by decide +kernel
theorem dX11_asked_70 : decode cX11_asked 70 = .ok (.aload_n 0, 1) := by decide +kernel
theorem dX11_asked_71 : decode cX11_asked 71 = .ok (.iconst 3, 1) := by decide +kernel
theorem dX11_asked_72 : decode cX11_asked 72 = .ok (.aload_n 0, 1) := by decide +kernel
theorem dX11_asked_73 : decode cX11_asked 73 = .ok (.getfield 23, 3) := by decide +kernel
theorem dX11_asked_76 : decode cX11_asked 76 = .ok (.invokevirtual 249, 3) := by decide +kernel
theorem dX11_asked_79 : decode cX11_asked 79 = .ok (.aload_n 0, 1) := by decide +kernel
theorem dX11_asked_80 : decode cX11_asked 80 = .ok (.getfield 36, 3) := by decide +kernel
theorem dX11_asked_83 : decode cX11_asked 83 = .ok (.ifCond .ne 7, 3) := by decide +kernel
theorem dX11_asked_86 : decode cX11_asked 86 = .ok (.aload_n 0, 1) := by decide +kernel
theorem dX11_asked_87 : decode cX11_asked 87 = .ok (.invokevirtual 256, 3) := by decide +kernel
theorem dX11_asked_90 : decode cX11_asked 90 = .ok (.aload_n 0, 1) := by decide +kernel
theorem dX11_asked_91 : decode cX11_asked 91 = .ok (.getfield 36, 3) := by decide +kernel
theorem dX11_asked_94 : decode cX11_asked 94 = .ok (.ifCond .le 7, 3) := by decide +kernel
theorem dX11_asked_97 : decode cX11_asked 97 = .ok (.iconst 0, 1) := by decide +kernel
theorem dX11_asked_98 : decode cX11_asked 98 = .ok (.goto 4, 3) := by decide +kernel
theorem dX11_asked_101 : decode cX11_asked 101 = .ok (.iload_n 2, 1) := by decide +kernel
theorem dX11_asked_102 : decode cX11_asked 102 = .ok (.ireturn, 1) := by decide +kernel
theorem dX11_oneLetter_0 : decode cX11_oneLetter 0 = .ok (.aload_n 0, 1) := by decide +kernel
theorem dX11_oneLetter_1 : decode cX11_oneLetter 1 = .ok (.getfield 36, 3) := by decide +kernel
theorem dX11_oneLetter_4 : decode cX11_oneLetter 4 = .ok (.ifCond .le 5, 3) := by decide +kernel
theorem dX11_oneLetter_7 : decode cX11_oneLetter 7 = .ok (.iconst 0, 1) := by decide +kernel
theorem dX11_oneLetter_8 : decode cX11_oneLetter 8 = .ok (.ireturn, 1) := by decide +kernel
theorem dX11_oneLetter_9 : decode cX11_oneLetter 9 = .ok (.aload_n 0, 1) := by decide +kernel
theorem dX11_oneLetter_10 : decode cX11_oneLetter 10 = .ok (.getfield 20, 3) := by decide +kernel
theorem dX11_oneLetter_13 : decode cX11_oneLetter 13 = .ok (.iconst 1, 1) := by decide +kernel
theorem dX11_oneLetter_14 : decode cX11_oneLetter 14 = .ok (.if_icmp .ne 14, 3) := by decide +kernel
theorem dX11_oneLetter_17 : decode cX11_oneLetter 17 = .ok (.aload_n 0, 1) := by decide +kernel
theorem dX11_oneLetter_18 : decode cX11_oneLetter 18 = .ok (.getfield 32, 3) := by decide +kernel
theorem dX11_oneLetter_21 : decode cX11_oneLetter 21 = .ok (.ldc2_w 351, 3) := by decide +kernel
theorem dX11_oneLetter_24 : decode cX11_oneLetter 24 = .ok (.lcmp, 1) := by decide +kernel
theorem dX11_oneLetter_25 : decode cX11_oneLetter 25 = .ok (.ifCond .le 12, 3) := by decide +kernel
theorem dX11_oneLetter_28 : decode cX11_oneLetter 28 = .ok (.aload_n 0, 1) := by decide +kernel
theorem dX11_oneLetter_29 : decode cX11_oneLetter 29 = .ok (.iconst 1, 1) := by decide +kernel
theorem dX11_oneLetter_30 : decode cX11_oneLetter 30 = .ok (.aload_n 0, 1) := by decide +kernel
theorem dX11_oneLetter_31 : decode cX11_oneLetter 31 = .ok (.getfield 23, 3) := by decide +kernel
theorem dX11_oneLetter_34 : decode cX11_oneLetter 34 = .ok (.invokevirtual 249, 3) := by decide +kernel
theorem dX11_oneLetter_37 : decode cX11_oneLetter 37 = .ok (.aload_n 0, 1) := by decide +kernel
theorem dX11_oneLetter_38 : decode cX11_oneLetter 38 = .ok (.getfield 36, 3) := by decide +kernel
theorem dX11_oneLetter_41 : decode cX11_oneLetter 41 = .ok (.ifCond .le 7, 3) := by decide +kernel
theorem dX11_oneLetter_44 : decode cX11_oneLetter 44 = .ok (.iconst 0, 1) := by decide +kernel
theorem dX11_oneLetter_45 : decode cX11_oneLetter 45 = .ok (.goto 11, 3) := by decide +kernel
theorem dX11_oneLetter_48 : decode cX11_oneLetter 48 = .ok (.aload_n 0, 1) := by decide +kernel
theorem dX11_oneLetter_49 : decode cX11_oneLetter 49 = .ok (.getfield 32, 3) := by decide +kernel
theorem dX11_oneLetter_52 : decode cX11_oneLetter 52 = .ok (.l2i, 1) := by decide +kernel
theorem dX11_oneLetter_53 : decode cX11_oneLetter 53 = .ok (.bipush 97, 2) := by decide +kernel
theorem dX11_oneLetter_55 : decode cX11_oneLetter 55 = .ok (.isub, 1) := by decide +kernel
theorem dX11_oneLetter_56 : decode cX11_oneLetter 56 = .ok (.istore_n 1, 1) := by decide +kernel
theorem dX11_oneLetter_57 : decode cX11_oneLetter 57 = .ok (.aload_n 0, 1) := by decide +kernel
theorem dX11_oneLetter_58 : decode cX11_oneLetter 58 = .ok (.getfield 36, 3) := by decide +kernel
theorem dX11_oneLetter_61 : decode cX11_oneLetter 61 = .ok (.ifCond .ne 7, 3) := by decide +kernel
theorem dX11_oneLetter_64 : decode cX11_oneLetter 64 = .ok (.aload_n 0, 1) := by decide +kernel
theorem dX11_oneLetter_65 : decode cX11_oneLetter 65 = .ok (.invokevirtual 256, 3) := by decide +kernel
theorem dX11_oneLetter_68 : decode cX11_oneLetter 68 = .ok (.iload_n 1, 1) := by decide +kernel
theorem dX11_oneLetter_69 : decode cX11_oneLetter 69 = .ok (.ireturn, 1) := by decide +kernel
theorem dX11_weighs_0 : decode cX11_weighs 0 = .ok (.aload_n 0, 1) := by decide +kernel
theorem dX11_weighs_1 : decode cX11_weighs 1 = .ok (.iconst 0, 1) := by decide +kernel
theorem dX11_weighs_2 : decode cX11_weighs 2 = .ok (.invokevirtual 353, 3) := by decide +kernel
theorem dX11_weighs_5 : decode cX11_weighs 5 = .ok (.ifCond .ne 4, 3) := by decide +kernel
theorem dX11_weighs_8 : decode cX11_weighs 8 = .ok (.return_, 1) := by decide +kernel
theorem dX11_weighs_9 : decode cX11_weighs 9 = .ok (.aload_n 0, 1) := by decide +kernel
theorem dX11_weighs_10 : decode cX11_weighs 10 = .ok (.invokevirtual 357, 3) := by decide +kernel
theorem dX11_weighs_13 : decode cX11_weighs 13 = .ok (.istore_n 1, 1) := by decide +kernel
theorem dX11_weighs_14 : decode cX11_weighs 14 = .ok (.aload_n 0, 1) := by decide +kernel
theorem dX11_weighs_15 : decode cX11_weighs 15 = .ok (.iconst 1, 1) := by decide +kernel
theorem dX11_weighs_16 : decode cX11_weighs 16 = .ok (.bipush 99, 2) := by decide +kernel
theorem dX11_weighs_18 : decode cX11_weighs 18 = .ok (.invokevirtual 361, 3) := by decide +kernel
theorem dX11_weighs_21 : decode cX11_weighs 21 = .ok (.istore_n 2, 1) := by decide +kernel
theorem dX11_weighs_22 : decode cX11_weighs 22 = .ok (.aload_n 0, 1) := by decide +kernel
theorem dX11_weighs_23 : decode cX11_weighs 23 = .ok (.getfield 36, 3) := by decide +kernel
theorem dX11_weighs_26 : decode cX11_weighs 26 = .ok (.ifCond .ne 18, 3) := by decide +kernel
theorem dX11_weighs_29 : decode cX11_weighs 29 = .ok (.aload_n 0, 1) := by decide +kernel
theorem dX11_weighs_30 : decode cX11_weighs 30 = .ok (.getfield 51, 3) := by decide +kernel
theorem dX11_weighs_33 : decode cX11_weighs 33 = .ok (.bipush 26, 2) := by decide +kernel
theorem dX11_weighs_35 : decode cX11_weighs 35 = .ok (.aload_n 0, 1) := by decide +kernel
theorem dX11_weighs_36 : decode cX11_weighs 36 = .ok (.getfield 127, 3) := by decide +kernel
theorem dX11_weighs_39 : decode cX11_weighs 39 = .ok (.imul, 1) := by decide +kernel
theorem dX11_weighs_40 : decode cX11_weighs 40 = .ok (.iload_n 1, 1) := by decide +kernel
theorem dX11_weighs_41 : decode cX11_weighs 41 = .ok (.iadd, 1) := by decide +kernel
theorem dX11_weighs_42 : decode cX11_weighs 42 = .ok (.iload_n 2, 1) := by decide +kernel
theorem dX11_weighs_43 : decode cX11_weighs 43 = .ok (.iastore, 1) := by decide +kernel
theorem dX11_weighs_44 : decode cX11_weighs 44 = .ok (.return_, 1) := by decide +kernel
theorem dX11_person_0 : decode cX11_person 0 = .ok (.aload_n 0, 1) := by decide +kernel
theorem dX11_person_1 : decode cX11_person 1 = .ok (.aload_n 0, 1) := by decide +kernel
theorem dX11_person_2 : decode cX11_person 2 = .ok (.getfield 54, 3) := by decide +kernel
theorem dX11_person_5 : decode cX11_person 5 = .ok (.aload_n 0, 1) := by decide +kernel
theorem dX11_person_6 : decode cX11_person 6 = .ok (.getfield 127, 3) := by decide +kernel
theorem dX11_person_9 : decode cX11_person 9 = .ok (.iaload, 1) := by decide +kernel
theorem dX11_person_10 : decode cX11_person 10 = .ok (.bipush 8, 2) := by decide +kernel
theorem dX11_person_12 : decode cX11_person 12 = .ok (.if_icmp .ne 7, 3) := by decide +kernel
theorem dX11_person_15 : decode cX11_person 15 = .ok (.iconst 1, 1) := by decide +kernel
theorem dX11_person_16 : decode cX11_person 16 = .ok (.goto 4, 3) := by decide +kernel
theorem dX11_person_19 : decode cX11_person 19 = .ok (.iconst 0, 1) := by decide +kernel
theorem dX11_person_20 : decode cX11_person 20 = .ok (.invokevirtual 353, 3) := by decide +kernel
theorem dX11_person_23 : decode cX11_person 23 = .ok (.ifCond .ne 4, 3) := by decide +kernel
theorem dX11_person_26 : decode cX11_person 26 = .ok (.return_, 1) := by decide +kernel
theorem dX11_person_27 : decode cX11_person 27 = .ok (.bipush 8, 2) := by decide +kernel
theorem dX11_person_29 : decode cX11_person 29 = .ok (.aload_n 0, 1) := by decide +kernel
theorem dX11_person_30 : decode cX11_person 30 = .ok (.getfield 127, 3) := by decide +kernel
theorem dX11_person_33 : decode cX11_person 33 = .ok (.imul, 1) := by decide +kernel
theorem dX11_person_34 : decode cX11_person 34 = .ok (.aload_n 0, 1) := by decide +kernel
theorem dX11_person_35 : decode cX11_person 35 = .ok (.getfield 54, 3) := by decide +kernel
theorem dX11_person_38 : decode cX11_person 38 = .ok (.aload_n 0, 1) := by decide +kernel
theorem dX11_person_39 : decode cX11_person 39 = .ok (.getfield 127, 3) := by decide +kernel
theorem dX11_person_42 : decode cX11_person 42 = .ok (.iaload, 1) := by decide +kernel
theorem dX11_person_43 : decode cX11_person 43 = .ok (.iadd, 1) := by decide +kernel
theorem dX11_person_44 : decode cX11_person 44 = .ok (.istore_n 1, 1) := by decide +kernel
theorem dX11_person_45 : decode cX11_person 45 = .ok (.aload_n 0, 1) := by decide +kernel
theorem dX11_person_46 : decode cX11_person 46 = .ok (.getfield 57, 3) := by decide +kernel
theorem dX11_person_49 : decode cX11_person 49 = .ok (.iload_n 1, 1) := by decide +kernel
theorem dX11_person_50 : decode cX11_person 50 = .ok (.aload_n 0, 1) := by decide +kernel
theorem dX11_person_51 : decode cX11_person 51 = .ok (.invokevirtual 365, 3) := by decide +kernel
theorem dX11_person_54 : decode cX11_person 54 = .ok (.lastore, 1) := by decide +kernel
theorem dX11_person_55 : decode cX11_person 55 = .ok (.aload_n 0, 1) := by decide +kernel
theorem dX11_person_56 : decode cX11_person 56 = .ok (.ldc2_w 263, 3) := by decide +kernel
theorem dX11_person_59 : decode cX11_person 59 = .ok (.invokevirtual 369, 3) := by decide +kernel
theorem dX11_person_62 : decode cX11_person 62 = .ok (.aload_n 0, 1) := by decide +kernel
theorem dX11_person_63 : decode cX11_person 63 = .ok (.getfield 61, 3) := by decide +kernel
theorem dX11_person_66 : decode cX11_person 66 = .ok (.iload_n 1, 1) := by decide +kernel
theorem dX11_person_67 : decode cX11_person 67 = .ok (.aload_n 0, 1) := by decide +kernel
theorem dX11_person_68 : decode cX11_person 68 = .ok (.iconst 0, 1) := by decide +kernel
theorem dX11_person_69 : decode cX11_person 69 = .ok (.bipush 99, 2) := by decide +kernel
theorem dX11_person_71 : decode cX11_person 71 = .ok (.invokevirtual 361, 3) := by decide +kernel
theorem dX11_person_74 : decode cX11_person 74 = .ok (.iastore, 1) := by decide +kernel
theorem dX11_person_75 : decode cX11_person 75 = .ok (.aload_n 0, 1) := by decide +kernel
theorem dX11_person_76 : decode cX11_person 76 = .ok (.ldc2_w 265, 3) := by decide +kernel
theorem dX11_person_79 : decode cX11_person 79 = .ok (.invokevirtual 369, 3) := by decide +kernel
theorem dX11_person_82 : decode cX11_person 82 = .ok (.aload_n 0, 1) := by decide +kernel
theorem dX11_person_83 : decode cX11_person 83 = .ok (.getfield 64, 3) := by decide +kernel
theorem dX11_person_86 : decode cX11_person 86 = .ok (.iload_n 1, 1) := by decide +kernel
theorem dX11_person_87 : decode cX11_person 87 = .ok (.aload_n 0, 1) := by decide +kernel
theorem dX11_person_88 : decode cX11_person 88 = .ok (.iconst 0, 1) := by decide +kernel
theorem dX11_person_89 : decode cX11_person 89 = .ok (.sipush 999, 3) := by decide +kernel
theorem dX11_person_92 : decode cX11_person 92 = .ok (.invokevirtual 361, 3) := by decide +kernel
theorem dX11_person_95 : decode cX11_person 95 = .ok (.iastore, 1) := by decide +kernel
theorem dX11_person_96 : decode cX11_person 96 = .ok (.aload_n 0, 1) := by decide +kernel
theorem dX11_person_97 : decode cX11_person 97 = .ok (.ldc2_w 267, 3) := by decide +kernel
theorem dX11_person_100 : decode cX11_person 100 = .ok (.invokevirtual 369, 3) := by decide +kernel
theorem dX11_person_103 : decode cX11_person 103 = .ok (.aload_n 0, 1) := by decide +kernel
theorem dX11_person_104 : decode cX11_person 104 = .ok (.getfield 67, 3) := by decide +kernel
theorem dX11_person_107 : decode cX11_person 107 = .ok (.iload_n 1, 1) := by decide +kernel
theorem dX11_person_108 : decode cX11_person 108 = .ok (.aload_n 0, 1) := by decide +kernel
theorem dX11_person_109 : decode cX11_person 109 = .ok (.iconst 0, 1) := by decide +kernel
theorem dX11_person_110 : decode cX11_person 110 = .ok (.bipush 100, 2) := by decide +kernel
theorem dX11_person_112 : decode cX11_person 112 = .ok (.invokevirtual 361, 3) := by decide +kernel
theorem dX11_person_115 : decode cX11_person 115 = .ok (.iastore, 1) := by decide +kernel
theorem dX11_person_116 : decode cX11_person 116 = .ok (.aload_n 0, 1) := by decide +kernel
theorem dX11_person_117 : decode cX11_person 117 = .ok (.getfield 70, 3) := by decide +kernel
theorem dX11_person_120 : decode cX11_person 120 = .ok (.iload_n 1, 1) := by decide +kernel
theorem dX11_person_121 : decode cX11_person 121 = .ok (.iconst 0, 1) := by decide +kernel
theorem dX11_person_122 : decode cX11_person 122 = .ok (.iastore, 1) := by decide +kernel
theorem dX11_person_123 : decode cX11_person 123 = .ok (.aload_n 0, 1) := by decide +kernel
theorem dX11_person_124 : decode cX11_person 124 = .ok (.getfield 36, 3) := by decide +kernel
theorem dX11_person_127 : decode cX11_person 127 = .ok (.ifCond .ne 16, 3) := by decide +kernel
theorem dX11_person_130 : decode cX11_person 130 = .ok (.aload_n 0, 1) := by decide +kernel
theorem dX11_person_131 : decode cX11_person 131 = .ok (.getfield 54, 3) := by decide +kernel
theorem dX11_person_134 : decode cX11_person 134 = .ok (.aload_n 0, 1) := by decide +kernel
theorem dX11_person_135 : decode cX11_person 135 = .ok (.getfield 127, 3) := by decide +kernel
theorem dX11_person_138 : decode cX11_person 138 = .ok (.dup2, 1) := by decide +kernel
theorem dX11_person_139 : decode cX11_person 139 = .ok (.iaload, 1) := by decide +kernel
theorem dX11_person_140 : decode cX11_person 140 = .ok (.iconst 1, 1) := by decide +kernel
theorem dX11_person_141 : decode cX11_person 141 = .ok (.iadd, 1) := by decide +kernel
theorem dX11_person_142 : decode cX11_person 142 = .ok (.iastore, 1) := by decide +kernel
theorem dX11_person_143 : decode cX11_person 143 = .ok (.return_, 1) := by decide +kernel
theorem dX11_title_0 : decode cX11_title 0 = .ok (.aload_n 0, 1) := by decide +kernel
theorem dX11_title_1 : decode cX11_title 1 = .ok (.aload_n 0, 1) := by decide +kernel
theorem dX11_title_2 : decode cX11_title 2 = .ok (.getfield 73, 3) := by decide +kernel
theorem dX11_title_5 : decode cX11_title 5 = .ok (.aload_n 0, 1) := by decide +kernel
theorem dX11_title_6 : decode cX11_title 6 = .ok (.getfield 127, 3) := by decide +kernel
theorem dX11_title_9 : decode cX11_title 9 = .ok (.iaload, 1) := by decide +kernel
theorem dX11_title_10 : decode cX11_title 10 = .ok (.bipush 12, 2) := by decide +kernel
theorem dX11_title_12 : decode cX11_title 12 = .ok (.if_icmp .ne 7, 3) := by decide +kernel
theorem dX11_title_15 : decode cX11_title 15 = .ok (.iconst 1, 1) := by decide +kernel
theorem dX11_title_16 : decode cX11_title 16 = .ok (.goto 4, 3) := by decide +kernel
theorem dX11_title_19 : decode cX11_title 19 = .ok (.iconst 0, 1) := by decide +kernel
theorem dX11_title_20 : decode cX11_title 20 = .ok (.invokevirtual 353, 3) := by decide +kernel
theorem dX11_title_23 : decode cX11_title 23 = .ok (.ifCond .ne 4, 3) := by decide +kernel
theorem dX11_title_26 : decode cX11_title 26 = .ok (.return_, 1) := by decide +kernel
theorem dX11_title_27 : decode cX11_title 27 = .ok (.bipush 12, 2) := by decide +kernel
theorem dX11_title_29 : decode cX11_title 29 = .ok (.aload_n 0, 1) := by decide +kernel
theorem dX11_title_30 : decode cX11_title 30 = .ok (.getfield 127, 3) := by decide +kernel
theorem dX11_title_33 : decode cX11_title 33 = .ok (.imul, 1) := by decide +kernel
theorem dX11_title_34 : decode cX11_title 34 = .ok (.aload_n 0, 1) := by decide +kernel
theorem dX11_title_35 : decode cX11_title 35 = .ok (.getfield 73, 3) := by decide +kernel
theorem dX11_title_38 : decode cX11_title 38 = .ok (.aload_n 0, 1) := by decide +kernel
theorem dX11_title_39 : decode cX11_title 39 = .ok (.getfield 127, 3) := by decide +kernel
theorem dX11_title_42 : decode cX11_title 42 = .ok (.iaload, 1) := by decide +kernel
theorem dX11_title_43 : decode cX11_title 43 = .ok (.iadd, 1) := by decide +kernel
theorem dX11_title_44 : decode cX11_title 44 = .ok (.istore_n 1, 1) := by decide +kernel
theorem dX11_title_45 : decode cX11_title 45 = .ok (.aload_n 0, 1) := by decide +kernel
theorem dX11_title_46 : decode cX11_title 46 = .ok (.getfield 76, 3) := by decide +kernel
theorem dX11_title_49 : decode cX11_title 49 = .ok (.iload_n 1, 1) := by decide +kernel
theorem dX11_title_50 : decode cX11_title 50 = .ok (.aload_n 0, 1) := by decide +kernel
theorem dX11_title_51 : decode cX11_title 51 = .ok (.invokevirtual 365, 3) := by decide +kernel
theorem dX11_title_54 : decode cX11_title 54 = .ok (.lastore, 1) := by decide +kernel
theorem dX11_title_55 : decode cX11_title 55 = .ok (.aload_n 0, 1) := by decide +kernel
theorem dX11_title_56 : decode cX11_title 56 = .ok (.ldc2_w 271, 3) := by decide +kernel
theorem dX11_title_59 : decode cX11_title 59 = .ok (.invokevirtual 369, 3) := by decide +kernel
theorem dX11_title_62 : decode cX11_title 62 = .ok (.aload_n 0, 1) := by decide +kernel
theorem dX11_title_63 : decode cX11_title 63 = .ok (.getfield 79, 3) := by decide +kernel
theorem dX11_title_66 : decode cX11_title 66 = .ok (.iload_n 1, 1) := by decide +kernel
theorem dX11_title_67 : decode cX11_title 67 = .ok (.aload_n 0, 1) := by decide +kernel
theorem dX11_title_68 : decode cX11_title 68 = .ok (.iconst 0, 1) := by decide +kernel
theorem dX11_title_69 : decode cX11_title 69 = .ok (.sipush 999, 3) := by decide +kernel
theorem dX11_title_72 : decode cX11_title 72 = .ok (.invokevirtual 361, 3) := by decide +kernel
theorem dX11_title_75 : decode cX11_title 75 = .ok (.iastore, 1) := by decide +kernel
theorem dX11_title_76 : decode cX11_title 76 = .ok (.aload_n 0, 1) := by decide +kernel
theorem dX11_title_77 : decode cX11_title 77 = .ok (.getfield 36, 3) := by decide +kernel
theorem dX11_title_80 : decode cX11_title 80 = .ok (.ifCond .ne 16, 3) := by decide +kernel
theorem dX11_title_83 : decode cX11_title 83 = .ok (.aload_n 0, 1) := by decide +kernel
theorem dX11_title_84 : decode cX11_title 84 = .ok (.getfield 73, 3) := by decide +kernel
theorem dX11_title_87 : decode cX11_title 87 = .ok (.aload_n 0, 1) := by decide +kernel
theorem dX11_title_88 : decode cX11_title 88 = .ok (.getfield 127, 3) := by decide +kernel
theorem dX11_title_91 : decode cX11_title 91 = .ok (.dup2, 1) := by decide +kernel
theorem dX11_title_92 : decode cX11_title 92 = .ok (.iaload, 1) := by decide +kernel
theorem dX11_title_93 : decode cX11_title 93 = .ok (.iconst 1, 1) := by decide +kernel
theorem dX11_title_94 : decode cX11_title 94 = .ok (.iadd, 1) := by decide +kernel
theorem dX11_title_95 : decode cX11_title 95 = .ok (.iastore, 1) := by decide +kernel
theorem dX11_title_96 : decode cX11_title 96 = .ok (.return_, 1) := by decide +kernel
theorem dX11_having_0 : decode cX11_having 0 = .ok (.aload_n 0, 1) := by decide +kernel
theorem dX11_having_1 : decode cX11_having 1 = .ok (.iconst 0, 1) := by decide +kernel
theorem dX11_having_2 : decode cX11_having 2 = .ok (.invokevirtual 353, 3) := by decide +kernel
theorem dX11_having_5 : decode cX11_having 5 = .ok (.ifCond .ne 4, 3) := by decide +kernel
theorem dX11_having_8 : decode cX11_having 8 = .ok (.return_, 1) := by decide +kernel
theorem dX11_having_9 : decode cX11_having 9 = .ok (.bipush 8, 2) := by decide +kernel
theorem dX11_having_11 : decode cX11_having 11 = .ok (.aload_n 0, 1) := by decide +kernel
theorem dX11_having_12 : decode cX11_having 12 = .ok (.getfield 127, 3) := by decide +kernel
theorem dX11_having_15 : decode cX11_having 15 = .ok (.imul, 1) := by decide +kernel
theorem dX11_having_16 : decode cX11_having 16 = .ok (.aload_n 0, 1) := by decide +kernel
theorem dX11_having_17 : decode cX11_having 17 = .ok (.iconst 0, 1) := by decide +kernel
theorem dX11_having_18 : decode cX11_having 18 = .ok (.invokevirtual 373, 3) := by decide +kernel
theorem dX11_having_21 : decode cX11_having 21 = .ok (.iadd, 1) := by decide +kernel
theorem dX11_having_22 : decode cX11_having 22 = .ok (.istore_n 1, 1) := by decide +kernel
theorem dX11_having_23 : decode cX11_having 23 = .ok (.aload_n 0, 1) := by decide +kernel
theorem dX11_having_24 : decode cX11_having 24 = .ok (.getfield 36, 3) := by decide +kernel
theorem dX11_having_27 : decode cX11_having 27 = .ok (.ifCond .ne 34, 3) := by decide +kernel
theorem dX11_having_30 : decode cX11_having 30 = .ok (.aload_n 0, 1) := by decide +kernel
theorem dX11_having_31 : decode cX11_having 31 = .ok (.getfield 20, 3) := by decide +kernel
theorem dX11_having_34 : decode cX11_having 34 = .ok (.iconst 1, 1) := by decide +kernel
theorem dX11_having_35 : decode cX11_having 35 = .ok (.if_icmp .ne 26, 3) := by decide +kernel
theorem dX11_having_38 : decode cX11_having 38 = .ok (.aload_n 0, 1) := by decide +kernel
theorem dX11_having_39 : decode cX11_having 39 = .ok (.aload_n 0, 1) := by decide +kernel
theorem dX11_having_40 : decode cX11_having 40 = .ok (.getfield 32, 3) := by decide +kernel
theorem dX11_having_43 : decode cX11_having 43 = .ok (.invokevirtual 344, 3) := by decide +kernel
theorem dX11_having_46 : decode cX11_having 46 = .ok (.ifCond .ne 15, 3) := by decide +kernel
theorem dX11_having_49 : decode cX11_having 49 = .ok (.aload_n 0, 1) := by decide +kernel
theorem dX11_having_50 : decode cX11_having 50 = .ok (.iconst 1, 1) := by decide +kernel
theorem dX11_having_51 : decode cX11_having 51 = .ok (.aload_n 0, 1) := by decide +kernel
theorem dX11_having_52 : decode cX11_having 52 = .ok (.getfield 32, 3) := by decide +kernel
theorem dX11_having_55 : decode cX11_having 55 = .ok (.invokevirtual 347, 3) := by decide +kernel
theorem dX11_having_58 : decode cX11_having 58 = .ok (.goto 4, 3) := by decide +kernel
theorem dX11_having_61 : decode cX11_having 61 = .ok (.iconst (-1), 1) := by decide +kernel
theorem dX11_having_62 : decode cX11_having 62 = .ok (.istore_n 2, 1) := by decide +kernel
theorem dX11_having_63 : decode cX11_having 63 = .ok (.iload_n 2, 1) := by decide +kernel
theorem dX11_having_64 : decode cX11_having 64 = .ok (.iconst (-1), 1) := by decide +kernel
theorem dX11_having_65 : decode cX11_having 65 = .ok (.if_icmp .eq 26, 3) := by decide +kernel
theorem dX11_having_68 : decode cX11_having 68 = .ok (.aload_n 0, 1) := by decide +kernel
theorem dX11_having_69 : decode cX11_having 69 = .ok (.getfield 70, 3) := by decide +kernel
theorem dX11_having_72 : decode cX11_having 72 = .ok (.iload_n 1, 1) := by decide +kernel
theorem dX11_having_73 : decode cX11_having 73 = .ok (.iaload, 1) := by decide +kernel
theorem dX11_having_74 : decode cX11_having 74 = .ok (.iload_n 2, 1) := by decide +kernel
theorem dX11_having_75 : decode cX11_having 75 = .ok (.ishr, 1) := by decide +kernel
theorem dX11_having_76 : decode cX11_having 76 = .ok (.iconst 1, 1) := by decide +kernel
theorem dX11_having_77 : decode cX11_having 77 = .ok (.iand, 1) := by decide +kernel
theorem dX11_having_78 : decode cX11_having 78 = .ok (.iconst 1, 1) := by decide +kernel
theorem dX11_having_79 : decode cX11_having 79 = .ok (.if_icmp .ne 12, 3) := by decide +kernel
theorem dX11_having_82 : decode cX11_having 82 = .ok (.aload_n 0, 1) := by decide +kernel
theorem dX11_having_83 : decode cX11_having 83 = .ok (.iconst 3, 1) := by decide +kernel
theorem dX11_having_84 : decode cX11_having 84 = .ok (.aload_n 0, 1) := by decide +kernel
theorem dX11_having_85 : decode cX11_having 85 = .ok (.getfield 23, 3) := by decide +kernel
theorem dX11_having_88 : decode cX11_having 88 = .ok (.invokevirtual 249, 3) := by decide +kernel
theorem dX11_having_91 : decode cX11_having 91 = .ok (.aload_n 0, 1) := by decide +kernel
theorem dX11_having_92 : decode cX11_having 92 = .ok (.iconst 1, 1) := by decide +kernel
theorem dX11_having_93 : decode cX11_having 93 = .ok (.invokevirtual 373, 3) := by decide +kernel
theorem dX11_having_96 : decode cX11_having 96 = .ok (.istore_n 2, 1) := by decide +kernel
theorem dX11_having_97 : decode cX11_having 97 = .ok (.aload_n 0, 1) := by decide +kernel
theorem dX11_having_98 : decode cX11_having 98 = .ok (.getfield 36, 3) := by decide +kernel
theorem dX11_having_101 : decode cX11_having 101 = .ok (.ifCond .ne 15, 3) := by decide +kernel
theorem dX11_having_104 : decode cX11_having 104 = .ok (.aload_n 0, 1) := by decide +kernel
theorem dX11_having_105 : decode cX11_having 105 = .ok (.getfield 70, 3) := by decide +kernel
theorem dX11_having_108 : decode cX11_having 108 = .ok (.iload_n 1, 1) := by decide +kernel
theorem dX11_having_109 : decode cX11_having 109 = .ok (.dup2, 1) := by decide +kernel
theorem dX11_having_110 : decode cX11_having 110 = .ok (.iaload, 1) := by decide +kernel
theorem dX11_having_111 : decode cX11_having 111 = .ok (.iconst 1, 1) := by decide +kernel
theorem dX11_having_112 : decode cX11_having 112 = .ok (.iload_n 2, 1) := by decide +kernel
theorem dX11_having_113 : decode cX11_having 113 = .ok (.ishl, 1) := by decide +kernel
theorem dX11_having_114 : decode cX11_having 114 = .ok (.ior, 1) := by decide +kernel
theorem dX11_having_115 : decode cX11_having 115 = .ok (.iastore, 1) := by decide +kernel
theorem dX11_having_116 : decode cX11_having 116 = .ok (.return_, 1) := by decide +kernel
theorem dX11_heaping_0 : decode cX11_heaping 0 = .ok (.aload_n 0, 1) := by decide +kernel
theorem dX11_heaping_1 : decode cX11_heaping 1 = .ok (.iconst 0, 1) := by decide +kernel
theorem dX11_heaping_2 : decode cX11_heaping 2 = .ok (.invokevirtual 353, 3) := by decide +kernel
theorem dX11_heaping_5 : decode cX11_heaping 5 = .ok (.ifCond .ne 4, 3) := by decide +kernel
theorem dX11_heaping_8 : decode cX11_heaping 8 = .ok (.return_, 1) := by decide +kernel
theorem dX11_heaping_9 : decode cX11_heaping 9 = .ok (.aload_n 0, 1) := by decide +kernel
theorem dX11_heaping_10 : decode cX11_heaping 10 = .ok (.invokevirtual 357, 3) := by decide +kernel
theorem dX11_heaping_13 : decode cX11_heaping 13 = .ok (.istore_n 1, 1) := by decide +kernel
theorem dX11_heaping_14 : decode cX11_heaping 14 = .ok (.aload_n 0, 1) := by decide +kernel
theorem dX11_heaping_15 : decode cX11_heaping 15 = .ok (.iconst 0, 1) := by decide +kernel
theorem dX11_heaping_16 : decode cX11_heaping 16 = .ok (.bipush 99, 2) := by decide +kernel
theorem dX11_heaping_18 : decode cX11_heaping 18 = .ok (.invokevirtual 361, 3) := by decide +kernel
theorem dX11_heaping_21 : decode cX11_heaping 21 = .ok (.istore_n 2, 1) := by decide +kernel
theorem dX11_heaping_22 : decode cX11_heaping 22 = .ok (.aload_n 0, 1) := by decide +kernel
theorem dX11_heaping_23 : decode cX11_heaping 23 = .ok (.getfield 36, 3) := by decide +kernel
theorem dX11_heaping_26 : decode cX11_heaping 26 = .ok (.ifCond .ne 18, 3) := by decide +kernel
theorem dX11_heaping_29 : decode cX11_heaping 29 = .ok (.aload_n 0, 1) := by decide +kernel
theorem dX11_heaping_30 : decode cX11_heaping 30 = .ok (.getfield 82, 3) := by decide +kernel
theorem dX11_heaping_33 : decode cX11_heaping 33 = .ok (.bipush 26, 2) := by decide +kernel
theorem dX11_heaping_35 : decode cX11_heaping 35 = .ok (.aload_n 0, 1) := by decide +kernel
theorem dX11_heaping_36 : decode cX11_heaping 36 = .ok (.getfield 127, 3) := by decide +kernel
theorem dX11_heaping_39 : decode cX11_heaping 39 = .ok (.imul, 1) := by decide +kernel
theorem dX11_heaping_40 : decode cX11_heaping 40 = .ok (.iload_n 1, 1) := by decide +kernel
theorem dX11_heaping_41 : decode cX11_heaping 41 = .ok (.iadd, 1) := by decide +kernel
theorem dX11_heaping_42 : decode cX11_heaping 42 = .ok (.iload_n 2, 1) := by decide +kernel
theorem dX11_heaping_43 : decode cX11_heaping 43 = .ok (.iastore, 1) := by decide +kernel
theorem dX11_heaping_44 : decode cX11_heaping 44 = .ok (.return_, 1) := by decide +kernel
theorem dX11_ageing_0 : decode cX11_ageing 0 = .ok (.aload_n 0, 1) := by decide +kernel
theorem dX11_ageing_1 : decode cX11_ageing 1 = .ok (.aload_n 0, 1) := by decide +kernel
theorem dX11_ageing_2 : decode cX11_ageing 2 = .ok (.getfield 85, 3) := by decide +kernel
theorem dX11_ageing_5 : decode cX11_ageing 5 = .ok (.aload_n 0, 1) := by decide +kernel
theorem dX11_ageing_6 : decode cX11_ageing 6 = .ok (.getfield 127, 3) := by decide +kernel
theorem dX11_ageing_9 : decode cX11_ageing 9 = .ok (.iaload, 1) := by decide +kernel
theorem dX11_ageing_10 : decode cX11_ageing 10 = .ok (.bipush 6, 2) := by decide +kernel
theorem dX11_ageing_12 : decode cX11_ageing 12 = .ok (.if_icmp .ne 7, 3) := by decide +kernel
theorem dX11_ageing_15 : decode cX11_ageing 15 = .ok (.iconst 1, 1) := by decide +kernel
theorem dX11_ageing_16 : decode cX11_ageing 16 = .ok (.goto 4, 3) := by decide +kernel
theorem dX11_ageing_19 : decode cX11_ageing 19 = .ok (.iconst 0, 1) := by decide +kernel
theorem dX11_ageing_20 : decode cX11_ageing 20 = .ok (.invokevirtual 353, 3) := by decide +kernel
theorem dX11_ageing_23 : decode cX11_ageing 23 = .ok (.ifCond .ne 4, 3) := by decide +kernel
theorem dX11_ageing_26 : decode cX11_ageing 26 = .ok (.return_, 1) := by decide +kernel
theorem dX11_ageing_27 : decode cX11_ageing 27 = .ok (.bipush 6, 2) := by decide +kernel
theorem dX11_ageing_29 : decode cX11_ageing 29 = .ok (.aload_n 0, 1) := by decide +kernel
theorem dX11_ageing_30 : decode cX11_ageing 30 = .ok (.getfield 127, 3) := by decide +kernel
theorem dX11_ageing_33 : decode cX11_ageing 33 = .ok (.imul, 1) := by decide +kernel
theorem dX11_ageing_34 : decode cX11_ageing 34 = .ok (.aload_n 0, 1) := by decide +kernel
theorem dX11_ageing_35 : decode cX11_ageing 35 = .ok (.getfield 85, 3) := by decide +kernel
theorem dX11_ageing_38 : decode cX11_ageing 38 = .ok (.aload_n 0, 1) := by decide +kernel
theorem dX11_ageing_39 : decode cX11_ageing 39 = .ok (.getfield 127, 3) := by decide +kernel
theorem dX11_ageing_42 : decode cX11_ageing 42 = .ok (.iaload, 1) := by decide +kernel
theorem dX11_ageing_43 : decode cX11_ageing 43 = .ok (.iadd, 1) := by decide +kernel
theorem dX11_ageing_44 : decode cX11_ageing 44 = .ok (.istore_n 1, 1) := by decide +kernel
theorem dX11_ageing_45 : decode cX11_ageing 45 = .ok (.aload_n 0, 1) := by decide +kernel
theorem dX11_ageing_46 : decode cX11_ageing 46 = .ok (.getfield 88, 3) := by decide +kernel
theorem dX11_ageing_49 : decode cX11_ageing 49 = .ok (.iload_n 1, 1) := by decide +kernel
theorem dX11_ageing_50 : decode cX11_ageing 50 = .ok (.aload_n 0, 1) := by decide +kernel
theorem dX11_ageing_51 : decode cX11_ageing 51 = .ok (.aload_n 0, 1) := by decide +kernel
theorem dX11_ageing_52 : decode cX11_ageing 52 = .ok (.getfield 85, 3) := by decide +kernel
theorem dX11_ageing_55 : decode cX11_ageing 55 = .ok (.aload_n 0, 1) := by decide +kernel
theorem dX11_ageing_56 : decode cX11_ageing 56 = .ok (.getfield 127, 3) := by decide +kernel
theorem dX11_ageing_59 : decode cX11_ageing 59 = .ok (.iaload, 1) := by decide +kernel
theorem dX11_ageing_60 : decode cX11_ageing 60 = .ok (.ifCond .ne 7, 3) := by decide +kernel
theorem dX11_ageing_63 : decode cX11_ageing 63 = .ok (.iconst 0, 1) := by decide +kernel
theorem dX11_ageing_64 : decode cX11_ageing 64 = .ok (.goto 13, 3) := by decide +kernel
theorem dX11_ageing_67 : decode cX11_ageing 67 = .ok (.aload_n 0, 1) := by decide +kernel
theorem dX11_ageing_68 : decode cX11_ageing 68 = .ok (.getfield 88, 3) := by decide +kernel
theorem dX11_ageing_71 : decode cX11_ageing 71 = .ok (.iload_n 1, 1) := by decide +kernel
theorem dX11_ageing_72 : decode cX11_ageing 72 = .ok (.iconst 1, 1) := by decide +kernel
theorem dX11_ageing_73 : decode cX11_ageing 73 = .ok (.isub, 1) := by decide +kernel
theorem dX11_ageing_74 : decode cX11_ageing 74 = .ok (.iaload, 1) := by decide +kernel
theorem dX11_ageing_75 : decode cX11_ageing 75 = .ok (.iconst 1, 1) := by decide +kernel
theorem dX11_ageing_76 : decode cX11_ageing 76 = .ok (.iadd, 1) := by decide +kernel
theorem dX11_ageing_77 : decode cX11_ageing 77 = .ok (.bipush 99, 2) := by decide +kernel
theorem dX11_ageing_79 : decode cX11_ageing 79 = .ok (.invokevirtual 361, 3) := by decide +kernel
theorem dX11_ageing_82 : decode cX11_ageing 82 = .ok (.iastore, 1) := by decide +kernel
theorem dX11_ageing_83 : decode cX11_ageing 83 = .ok (.aload_n 0, 1) := by decide +kernel
theorem dX11_ageing_84 : decode cX11_ageing 84 = .ok (.getfield 91, 3) := by decide +kernel
theorem dX11_ageing_87 : decode cX11_ageing 87 = .ok (.iload_n 1, 1) := by decide +kernel
theorem dX11_ageing_88 : decode cX11_ageing 88 = .ok (.aload_n 0, 1) := by decide +kernel
theorem dX11_ageing_89 : decode cX11_ageing 89 = .ok (.iconst 0, 1) := by decide +kernel
theorem dX11_ageing_90 : decode cX11_ageing 90 = .ok (.sipush 200, 3) := by decide +kernel
theorem dX11_ageing_93 : decode cX11_ageing 93 = .ok (.invokevirtual 361, 3) := by decide +kernel
theorem dX11_ageing_96 : decode cX11_ageing 96 = .ok (.iastore, 1) := by decide +kernel
theorem dX11_ageing_97 : decode cX11_ageing 97 = .ok (.aload_n 0, 1) := by decide +kernel
theorem dX11_ageing_98 : decode cX11_ageing 98 = .ok (.getfield 36, 3) := by decide +kernel
theorem dX11_ageing_101 : decode cX11_ageing 101 = .ok (.ifCond .ne 16, 3) := by decide +kernel
theorem dX11_ageing_104 : decode cX11_ageing 104 = .ok (.aload_n 0, 1) := by decide +kernel
theorem dX11_ageing_105 : decode cX11_ageing 105 = .ok (.getfield 85, 3) := by decide +kernel
theorem dX11_ageing_108 : decode cX11_ageing 108 = .ok (.aload_n 0, 1) := by decide +kernel
theorem dX11_ageing_109 : decode cX11_ageing 109 = .ok (.getfield 127, 3) := by decide +kernel
theorem dX11_ageing_112 : decode cX11_ageing 112 = .ok (.dup2, 1) := by decide +kernel
theorem dX11_ageing_113 : decode cX11_ageing 113 = .ok (.iaload, 1) := by decide +kernel
theorem dX11_ageing_114 : decode cX11_ageing 114 = .ok (.iconst 1, 1) := by decide +kernel
theorem dX11_ageing_115 : decode cX11_ageing 115 = .ok (.iadd, 1) := by decide +kernel
theorem dX11_ageing_116 : decode cX11_ageing 116 = .ok (.iastore, 1) := by decide +kernel
theorem dX11_ageing_117 : decode cX11_ageing 117 = .ok (.return_, 1) := by decide +kernel
theorem dX11_law_0 : decode cX11_law 0 = .ok (.aload_n 0, 1) := by decide +kernel
theorem dX11_law_1 : decode cX11_law 1 = .ok (.aload_n 0, 1) := by decide +kernel
theorem dX11_law_2 : decode cX11_law 2 = .ok (.getfield 94, 3) := by decide +kernel
theorem dX11_law_5 : decode cX11_law 5 = .ok (.aload_n 0, 1) := by decide +kernel
theorem dX11_law_6 : decode cX11_law 6 = .ok (.getfield 127, 3) := by decide +kernel
theorem dX11_law_9 : decode cX11_law 9 = .ok (.iaload, 1) := by decide +kernel
theorem dX11_law_10 : decode cX11_law 10 = .ok (.bipush 8, 2) := by decide +kernel
theorem dX11_law_12 : decode cX11_law 12 = .ok (.if_icmp .ne 7, 3) := by decide +kernel
theorem dX11_law_15 : decode cX11_law 15 = .ok (.iconst 1, 1) := by decide +kernel
theorem dX11_law_16 : decode cX11_law 16 = .ok (.goto 4, 3) := by decide +kernel
theorem dX11_law_19 : decode cX11_law 19 = .ok (.iconst 0, 1) := by decide +kernel
theorem dX11_law_20 : decode cX11_law 20 = .ok (.invokevirtual 353, 3) := by decide +kernel
theorem dX11_law_23 : decode cX11_law 23 = .ok (.ifCond .ne 4, 3) := by decide +kernel
theorem dX11_law_26 : decode cX11_law 26 = .ok (.return_, 1) := by decide +kernel
theorem dX11_law_27 : decode cX11_law 27 = .ok (.bipush 8, 2) := by decide +kernel
theorem dX11_law_29 : decode cX11_law 29 = .ok (.aload_n 0, 1) := by decide +kernel
theorem dX11_law_30 : decode cX11_law 30 = .ok (.getfield 127, 3) := by decide +kernel
theorem dX11_law_33 : decode cX11_law 33 = .ok (.imul, 1) := by decide +kernel
theorem dX11_law_34 : decode cX11_law 34 = .ok (.aload_n 0, 1) := by decide +kernel
theorem dX11_law_35 : decode cX11_law 35 = .ok (.getfield 94, 3) := by decide +kernel
theorem dX11_law_38 : decode cX11_law 38 = .ok (.aload_n 0, 1) := by decide +kernel
theorem dX11_law_39 : decode cX11_law 39 = .ok (.getfield 127, 3) := by decide +kernel
theorem dX11_law_42 : decode cX11_law 42 = .ok (.iaload, 1) := by decide +kernel
theorem dX11_law_43 : decode cX11_law 43 = .ok (.iadd, 1) := by decide +kernel
theorem dX11_law_44 : decode cX11_law 44 = .ok (.istore_n 1, 1) := by decide +kernel
theorem dX11_law_45 : decode cX11_law 45 = .ok (.aload_n 0, 1) := by decide +kernel
theorem dX11_law_46 : decode cX11_law 46 = .ok (.getfield 97, 3) := by decide +kernel
theorem dX11_law_49 : decode cX11_law 49 = .ok (.iload_n 1, 1) := by decide +kernel
theorem dX11_law_50 : decode cX11_law 50 = .ok (.aload_n 0, 1) := by decide +kernel
theorem dX11_law_51 : decode cX11_law 51 = .ok (.getfield 124, 3) := by decide +kernel
theorem dX11_law_54 : decode cX11_law 54 = .ok (.iastore, 1) := by decide +kernel
theorem dX11_law_55 : decode cX11_law 55 = .ok (.aload_n 0, 1) := by decide +kernel
theorem dX11_law_56 : decode cX11_law 56 = .ok (.iconst 0, 1) := by decide +kernel
theorem dX11_law_57 : decode cX11_law 57 = .ok (.invokevirtual 376, 3) := by decide +kernel
theorem dX11_law_60 : decode cX11_law 60 = .ok (.aload_n 0, 1) := by decide +kernel
theorem dX11_law_61 : decode cX11_law 61 = .ok (.ldc2_w 285, 3) := by decide +kernel
theorem dX11_law_64 : decode cX11_law 64 = .ok (.invokevirtual 369, 3) := by decide +kernel
theorem dX11_law_67 : decode cX11_law 67 = .ok (.aload_n 0, 1) := by decide +kernel
theorem dX11_law_68 : decode cX11_law 68 = .ok (.getfield 100, 3) := by decide +kernel
theorem dX11_law_71 : decode cX11_law 71 = .ok (.iload_n 1, 1) := by decide +kernel
theorem dX11_law_72 : decode cX11_law 72 = .ok (.aload_n 0, 1) := by decide +kernel
theorem dX11_law_73 : decode cX11_law 73 = .ok (.getfield 124, 3) := by decide +kernel
theorem dX11_law_76 : decode cX11_law 76 = .ok (.iastore, 1) := by decide +kernel
theorem dX11_law_77 : decode cX11_law 77 = .ok (.aload_n 0, 1) := by decide +kernel
theorem dX11_law_78 : decode cX11_law 78 = .ok (.getfield 36, 3) := by decide +kernel
theorem dX11_law_81 : decode cX11_law 81 = .ok (.ifCond .ne 8, 3) := by decide +kernel
theorem dX11_law_84 : decode cX11_law 84 = .ok (.aload_n 0, 1) := by decide +kernel
theorem dX11_law_85 : decode cX11_law 85 = .ok (.iconst 1, 1) := by decide +kernel
theorem dX11_law_86 : decode cX11_law 86 = .ok (.invokevirtual 376, 3) := by decide +kernel
theorem dX11_law_89 : decode cX11_law 89 = .ok (.aload_n 0, 1) := by decide +kernel
theorem dX11_law_90 : decode cX11_law 90 = .ok (.getfield 103, 3) := by decide +kernel
theorem dX11_law_93 : decode cX11_law 93 = .ok (.iload_n 1, 1) := by decide +kernel
theorem dX11_law_94 : decode cX11_law 94 = .ok (.aload_n 0, 1) := by decide +kernel
theorem dX11_law_95 : decode cX11_law 95 = .ok (.getfield 124, 3) := by decide +kernel
theorem dX11_law_98 : decode cX11_law 98 = .ok (.iastore, 1) := by decide +kernel
theorem dX11_law_99 : decode cX11_law 99 = .ok (.aload_n 0, 1) := by decide +kernel
theorem dX11_law_100 : decode cX11_law 100 = .ok (.getfield 36, 3) := by decide +kernel
theorem dX11_law_103 : decode cX11_law 103 = .ok (.ifCond .ne 16, 3) := by decide +kernel
theorem dX11_law_106 : decode cX11_law 106 = .ok (.aload_n 0, 1) := by decide +kernel
theorem dX11_law_107 : decode cX11_law 107 = .ok (.getfield 94, 3) := by decide +kernel
theorem dX11_law_110 : decode cX11_law 110 = .ok (.aload_n 0, 1) := by decide +kernel
theorem dX11_law_111 : decode cX11_law 111 = .ok (.getfield 127, 3) := by decide +kernel
theorem dX11_law_114 : decode cX11_law 114 = .ok (.dup2, 1) := by decide +kernel
theorem dX11_law_115 : decode cX11_law 115 = .ok (.iaload, 1) := by decide +kernel
theorem dX11_law_116 : decode cX11_law 116 = .ok (.iconst 1, 1) := by decide +kernel
theorem dX11_law_117 : decode cX11_law 117 = .ok (.iadd, 1) := by decide +kernel
theorem dX11_law_118 : decode cX11_law 118 = .ok (.iastore, 1) := by decide +kernel
theorem dX11_law_119 : decode cX11_law 119 = .ok (.return_, 1) := by decide +kernel
theorem dX11_bridge_0 : decode cX11_bridge 0 = .ok (.aload_n 0, 1) := by decide +kernel
theorem dX11_bridge_1 : decode cX11_bridge 1 = .ok (.aload_n 0, 1) := by decide +kernel
theorem dX11_bridge_2 : decode cX11_bridge 2 = .ok (.getfield 106, 3) := by decide +kernel
theorem dX11_bridge_5 : decode cX11_bridge 5 = .ok (.aload_n 0, 1) := by decide +kernel
theorem dX11_bridge_6 : decode cX11_bridge 6 = .ok (.getfield 127, 3) := by decide +kernel
theorem dX11_bridge_9 : decode cX11_bridge 9 = .ok (.iaload, 1) := by decide +kernel
theorem dX11_bridge_10 : decode cX11_bridge 10 = .ok (.iconst 4, 1) := by decide +kernel
theorem dX11_bridge_11 : decode cX11_bridge 11 = .ok (.if_icmp .ne 7, 3) := by decide +kernel
theorem dX11_bridge_14 : decode cX11_bridge 14 = .ok (.iconst 1, 1) := by decide +kernel
theorem dX11_bridge_15 : decode cX11_bridge 15 = .ok (.goto 4, 3) := by decide +kernel
theorem dX11_bridge_18 : decode cX11_bridge 18 = .ok (.iconst 0, 1) := by decide +kernel
theorem dX11_bridge_19 : decode cX11_bridge 19 = .ok (.invokevirtual 353, 3) := by decide +kernel
theorem dX11_bridge_22 : decode cX11_bridge 22 = .ok (.ifCond .ne 4, 3) := by decide +kernel
theorem dX11_bridge_25 : decode cX11_bridge 25 = .ok (.return_, 1) := by decide +kernel
theorem dX11_bridge_26 : decode cX11_bridge 26 = .ok (.iconst 4, 1) := by decide +kernel
theorem dX11_bridge_27 : decode cX11_bridge 27 = .ok (.aload_n 0, 1) := by decide +kernel
theorem dX11_bridge_28 : decode cX11_bridge 28 = .ok (.getfield 127, 3) := by decide +kernel
theorem dX11_bridge_31 : decode cX11_bridge 31 = .ok (.imul, 1) := by decide +kernel
theorem dX11_bridge_32 : decode cX11_bridge 32 = .ok (.aload_n 0, 1) := by decide +kernel
theorem dX11_bridge_33 : decode cX11_bridge 33 = .ok (.getfield 106, 3) := by decide +kernel
theorem dX11_bridge_36 : decode cX11_bridge 36 = .ok (.aload_n 0, 1) := by decide +kernel
theorem dX11_bridge_37 : decode cX11_bridge 37 = .ok (.getfield 127, 3) := by decide +kernel
theorem dX11_bridge_40 : decode cX11_bridge 40 = .ok (.iaload, 1) := by decide +kernel
theorem dX11_bridge_41 : decode cX11_bridge 41 = .ok (.iadd, 1) := by decide +kernel
theorem dX11_bridge_42 : decode cX11_bridge 42 = .ok (.istore_n 1, 1) := by decide +kernel
theorem dX11_bridge_43 : decode cX11_bridge 43 = .ok (.aload_n 0, 1) := by decide +kernel
theorem dX11_bridge_44 : decode cX11_bridge 44 = .ok (.getfield 109, 3) := by decide +kernel
theorem dX11_bridge_47 : decode cX11_bridge 47 = .ok (.iload_n 1, 1) := by decide +kernel
theorem dX11_bridge_48 : decode cX11_bridge 48 = .ok (.aload_n 0, 1) := by decide +kernel
theorem dX11_bridge_49 : decode cX11_bridge 49 = .ok (.invokevirtual 365, 3) := by decide +kernel
theorem dX11_bridge_52 : decode cX11_bridge 52 = .ok (.lastore, 1) := by decide +kernel
theorem dX11_bridge_53 : decode cX11_bridge 53 = .ok (.aload_n 0, 1) := by decide +kernel
theorem dX11_bridge_54 : decode cX11_bridge 54 = .ok (.getfield 112, 3) := by decide +kernel
theorem dX11_bridge_57 : decode cX11_bridge 57 = .ok (.iload_n 1, 1) := by decide +kernel
theorem dX11_bridge_58 : decode cX11_bridge 58 = .ok (.aload_n 0, 1) := by decide +kernel
theorem dX11_bridge_59 : decode cX11_bridge 59 = .ok (.iconst 0, 1) := by decide +kernel
theorem dX11_bridge_60 : decode cX11_bridge 60 = .ok (.sipush 9999, 3) := by decide +kernel
theorem dX11_bridge_63 : decode cX11_bridge 63 = .ok (.invokevirtual 361, 3) := by decide +kernel
theorem dX11_bridge_66 : decode cX11_bridge 66 = .ok (.iastore, 1) := by decide +kernel
theorem dX11_bridge_67 : decode cX11_bridge 67 = .ok (.aload_n 0, 1) := by decide +kernel
theorem dX11_bridge_68 : decode cX11_bridge 68 = .ok (.getfield 36, 3) := by decide +kernel
theorem dX11_bridge_71 : decode cX11_bridge 71 = .ok (.ifCond .ne 16, 3) := by decide +kernel
theorem dX11_bridge_74 : decode cX11_bridge 74 = .ok (.aload_n 0, 1) := by decide +kernel
theorem dX11_bridge_75 : decode cX11_bridge 75 = .ok (.getfield 106, 3) := by decide +kernel
theorem dX11_bridge_78 : decode cX11_bridge 78 = .ok (.aload_n 0, 1) := by decide +kernel
theorem dX11_bridge_79 : decode cX11_bridge 79 = .ok (.getfield 127, 3) := by decide +kernel
theorem dX11_bridge_82 : decode cX11_bridge 82 = .ok (.dup2, 1) := by decide +kernel
theorem dX11_bridge_83 : decode cX11_bridge 83 = .ok (.iaload, 1) := by decide +kernel
theorem dX11_bridge_84 : decode cX11_bridge 84 = .ok (.iconst 1, 1) := by decide +kernel
theorem dX11_bridge_85 : decode cX11_bridge 85 = .ok (.iadd, 1) := by decide +kernel
theorem dX11_bridge_86 : decode cX11_bridge 86 = .ok (.iastore, 1) := by decide +kernel
theorem dX11_bridge_87 : decode cX11_bridge 87 = .ok (.return_, 1) := by decide +kernel
theorem dX11_dating_0 : decode cX11_dating 0 = .ok (.aload_n 0, 1) := by decide +kernel
theorem dX11_dating_1 : decode cX11_dating 1 = .ok (.iconst 0, 1) := by decide +kernel
theorem dX11_dating_2 : decode cX11_dating 2 = .ok (.invokevirtual 353, 3) := by decide +kernel
theorem dX11_dating_5 : decode cX11_dating 5 = .ok (.ifCond .ne 4, 3) := by decide +kernel
theorem dX11_dating_8 : decode cX11_dating 8 = .ok (.return_, 1) := by decide +kernel
theorem dX11_dating_9 : decode cX11_dating 9 = .ok (.aload_n 0, 1) := by decide +kernel
theorem dX11_dating_10 : decode cX11_dating 10 = .ok (.getfield 115, 3) := by decide +kernel
theorem dX11_dating_13 : decode cX11_dating 13 = .ok (.aload_n 0, 1) := by decide +kernel
theorem dX11_dating_14 : decode cX11_dating 14 = .ok (.getfield 127, 3) := by decide +kernel
theorem dX11_dating_17 : decode cX11_dating 17 = .ok (.aload_n 0, 1) := by decide +kernel
theorem dX11_dating_18 : decode cX11_dating 18 = .ok (.iconst 0, 1) := by decide +kernel
theorem dX11_dating_19 : decode cX11_dating 19 = .ok (.bipush 99, 2) := by decide +kernel
theorem dX11_dating_21 : decode cX11_dating 21 = .ok (.invokevirtual 361, 3) := by decide +kernel
theorem dX11_dating_24 : decode cX11_dating 24 = .ok (.iastore, 1) := by decide +kernel
theorem dX11_dating_25 : decode cX11_dating 25 = .ok (.return_, 1) := by decide +kernel
theorem dX11_statement_0 : decode cX11_statement 0 = .ok (.aload_n 0, 1) := by decide +kernel
theorem dX11_statement_1 : decode cX11_statement 1 = .ok (.ldc2_w 259, 3) := by decide +kernel
theorem dX11_statement_4 : decode cX11_statement 4 = .ok (.invokevirtual 325, 3) := by decide +kernel
theorem dX11_statement_7 : decode cX11_statement 7 = .ok (.ifCond .eq 10, 3) := by decide +kernel
theorem dX11_statement_10 : decode cX11_statement 10 = .ok (.aload_n 0, 1) := by decide +kernel
theorem dX11_statement_11 : decode cX11_statement 11 = .ok (.invokevirtual 380, 3) := by decide +kernel
theorem dX11_statement_14 : decode cX11_statement 14 = .ok (.goto 75, 3) := by decide +kernel
theorem dX11_statement_17 : decode cX11_statement 17 = .ok (.aload_n 0, 1) := by decide +kernel
theorem dX11_statement_18 : decode cX11_statement 18 = .ok (.ldc2_w 261, 3) := by decide +kernel
theorem dX11_statement_21 : decode cX11_statement 21 = .ok (.invokevirtual 325, 3) := by decide +kernel
theorem dX11_statement_24 : decode cX11_statement 24 = .ok (.ifCond .eq 10, 3) := by decide +kernel
theorem dX11_statement_27 : decode cX11_statement 27 = .ok (.aload_n 0, 1) := by decide +kernel
theorem dX11_statement_28 : decode cX11_statement 28 = .ok (.invokevirtual 383, 3) := by decide +kernel
theorem dX11_statement_31 : decode cX11_statement 31 = .ok (.goto 58, 3) := by decide +kernel
theorem dX11_statement_34 : decode cX11_statement 34 = .ok (.aload_n 0, 1) := by decide +kernel
theorem dX11_statement_35 : decode cX11_statement 35 = .ok (.ldc2_w 269, 3) := by decide +kernel
theorem dX11_statement_38 : decode cX11_statement 38 = .ok (.invokevirtual 325, 3) := by decide +kernel
theorem dX11_statement_41 : decode cX11_statement 41 = .ok (.ifCond .eq 10, 3) := by decide +kernel
theorem dX11_statement_44 : decode cX11_statement 44 = .ok (.aload_n 0, 1) := by decide +kernel
theorem dX11_statement_45 : decode cX11_statement 45 = .ok (.invokevirtual 386, 3) := by decide +kernel
theorem dX11_statement_48 : decode cX11_statement 48 = .ok (.goto 41, 3) := by decide +kernel
theorem dX11_statement_51 : decode cX11_statement 51 = .ok (.aload_n 0, 1) := by decide +kernel
theorem dX11_statement_52 : decode cX11_statement 52 = .ok (.ldc2_w 273, 3) := by decide +kernel
theorem dX11_statement_55 : decode cX11_statement 55 = .ok (.invokevirtual 325, 3) := by decide +kernel
theorem dX11_statement_58 : decode cX11_statement 58 = .ok (.ifCond .eq 10, 3) := by decide +kernel
theorem dX11_statement_61 : decode cX11_statement 61 = .ok (.aload_n 0, 1) := by decide +kernel
theorem dX11_statement_62 : decode cX11_statement 62 = .ok (.invokevirtual 389, 3) := by decide +kernel
theorem dX11_statement_65 : decode cX11_statement 65 = .ok (.goto 24, 3) := by decide +kernel
theorem dX11_statement_68 : decode cX11_statement 68 = .ok (.aload_n 0, 1) := by decide +kernel
theorem dX11_statement_69 : decode cX11_statement 69 = .ok (.ldc2_w 275, 3) := by decide +kernel
theorem dX11_statement_72 : decode cX11_statement 72 = .ok (.invokevirtual 325, 3) := by decide +kernel
theorem dX11_statement_75 : decode cX11_statement 75 = .ok (.ifCond .eq 10, 3) := by decide +kernel
theorem dX11_statement_78 : decode cX11_statement 78 = .ok (.aload_n 0, 1) := by decide +kernel
theorem dX11_statement_79 : decode cX11_statement 79 = .ok (.invokevirtual 392, 3) := by decide +kernel
theorem dX11_statement_82 : decode cX11_statement 82 = .ok (.goto 7, 3) := by decide +kernel
theorem dX11_statement_85 : decode cX11_statement 85 = .ok (.aload_n 0, 1) := by decide +kernel
theorem dX11_statement_86 : decode cX11_statement 86 = .ok (.invokevirtual 395, 3) := by decide +kernel
theorem dX11_statement_89 : decode cX11_statement 89 = .ok (.aload_n 0, 1) := by decide +kernel
theorem dX11_statement_90 : decode cX11_statement 90 = .ok (.getfield 36, 3) := by decide +kernel
theorem dX11_statement_93 : decode cX11_statement 93 = .ok (.ifCond .ne 9, 3) := by decide +kernel
theorem dX11_statement_96 : decode cX11_statement 96 = .ok (.aload_n 0, 1) := by decide +kernel
theorem dX11_statement_97 : decode cX11_statement 97 = .ok (.bipush 59, 2) := by decide +kernel
theorem dX11_statement_99 : decode cX11_statement 99 = .ok (.invokevirtual 398, 3) := by decide +kernel
theorem dX11_statement_102 : decode cX11_statement 102 = .ok (.return_, 1) := by decide +kernel
theorem dX11_others_0 : decode cX11_others 0 = .ok (.aload_n 0, 1) := by decide +kernel
theorem dX11_others_1 : decode cX11_others 1 = .ok (.ldc2_w 277, 3) := by decide +kernel
theorem dX11_others_4 : decode cX11_others 4 = .ok (.invokevirtual 325, 3) := by decide +kernel
theorem dX11_others_7 : decode cX11_others 7 = .ok (.ifCond .eq 10, 3) := by decide +kernel
theorem dX11_others_10 : decode cX11_others 10 = .ok (.aload_n 0, 1) := by decide +kernel
theorem dX11_others_11 : decode cX11_others 11 = .ok (.invokevirtual 400, 3) := by decide +kernel
theorem dX11_others_14 : decode cX11_others 14 = .ok (.goto 63, 3) := by decide +kernel
theorem dX11_others_17 : decode cX11_others 17 = .ok (.aload_n 0, 1) := by decide +kernel
theorem dX11_others_18 : decode cX11_others 18 = .ok (.ldc2_w 279, 3) := by decide +kernel
theorem dX11_others_21 : decode cX11_others 21 = .ok (.invokevirtual 325, 3) := by decide +kernel
theorem dX11_others_24 : decode cX11_others 24 = .ok (.ifCond .eq 10, 3) := by decide +kernel
theorem dX11_others_27 : decode cX11_others 27 = .ok (.aload_n 0, 1) := by decide +kernel
theorem dX11_others_28 : decode cX11_others 28 = .ok (.invokevirtual 403, 3) := by decide +kernel
theorem dX11_others_31 : decode cX11_others 31 = .ok (.goto 46, 3) := by decide +kernel
theorem dX11_others_34 : decode cX11_others 34 = .ok (.aload_n 0, 1) := by decide +kernel
theorem dX11_others_35 : decode cX11_others 35 = .ok (.ldc2_w 281, 3) := by decide +kernel
theorem dX11_others_38 : decode cX11_others 38 = .ok (.invokevirtual 325, 3) := by decide +kernel
theorem dX11_others_41 : decode cX11_others 41 = .ok (.ifCond .eq 10, 3) := by decide +kernel
theorem dX11_others_44 : decode cX11_others 44 = .ok (.aload_n 0, 1) := by decide +kernel
theorem dX11_others_45 : decode cX11_others 45 = .ok (.invokevirtual 406, 3) := by decide +kernel
theorem dX11_others_48 : decode cX11_others 48 = .ok (.goto 29, 3) := by decide +kernel
theorem dX11_others_51 : decode cX11_others 51 = .ok (.aload_n 0, 1) := by decide +kernel
theorem dX11_others_52 : decode cX11_others 52 = .ok (.ldc2_w 283, 3) := by decide +kernel
theorem dX11_others_55 : decode cX11_others 55 = .ok (.invokevirtual 325, 3) := by decide +kernel
theorem dX11_others_58 : decode cX11_others 58 = .ok (.ifCond .eq 10, 3) := by decide +kernel
theorem dX11_others_61 : decode cX11_others 61 = .ok (.aload_n 0, 1) := by decide +kernel
theorem dX11_others_62 : decode cX11_others 62 = .ok (.invokevirtual 409, 3) := by decide +kernel
theorem dX11_others_65 : decode cX11_others 65 = .ok (.goto 12, 3) := by decide +kernel
theorem dX11_others_68 : decode cX11_others 68 = .ok (.aload_n 0, 1) := by decide +kernel
theorem dX11_others_69 : decode cX11_others 69 = .ok (.iconst 1, 1) := by decide +kernel
theorem dX11_others_70 : decode cX11_others 70 = .ok (.aload_n 0, 1) := by decide +kernel
theorem dX11_others_71 : decode cX11_others 71 = .ok (.getfield 23, 3) := by decide +kernel
theorem dX11_others_74 : decode cX11_others 74 = .ok (.invokevirtual 249, 3) := by decide +kernel
theorem dX11_others_77 : decode cX11_others 77 = .ok (.return_, 1) := by decide +kernel
theorem dX11_land_0 : decode cX11_land 0 = .ok (.aload_n 0, 1) := by decide +kernel
theorem dX11_land_1 : decode cX11_land 1 = .ok (.aload_n 0, 1) := by decide +kernel
theorem dX11_land_2 : decode cX11_land 2 = .ok (.getfield 13, 3) := by decide +kernel
theorem dX11_land_5 : decode cX11_land 5 = .ok (.putfield 17, 3) := by decide +kernel
theorem dX11_land_8 : decode cX11_land 8 = .ok (.aload_n 0, 1) := by decide +kernel
theorem dX11_land_9 : decode cX11_land 9 = .ok (.iconst 0, 1) := by decide +kernel
theorem dX11_land_10 : decode cX11_land 10 = .ok (.putfield 13, 3) := by decide +kernel
theorem dX11_land_13 : decode cX11_land 13 = .ok (.aload_n 0, 1) := by decide +kernel
theorem dX11_land_14 : decode cX11_land 14 = .ok (.iconst 0, 1) := by decide +kernel
theorem dX11_land_15 : decode cX11_land 15 = .ok (.putfield 26, 3) := by decide +kernel
theorem dX11_land_18 : decode cX11_land 18 = .ok (.aload_n 0, 1) := by decide +kernel
theorem dX11_land_19 : decode cX11_land 19 = .ok (.iconst 0, 1) := by decide +kernel
theorem dX11_land_20 : decode cX11_land 20 = .ok (.putfield 36, 3) := by decide +kernel
theorem dX11_land_23 : decode cX11_land 23 = .ok (.aload_n 0, 1) := by decide +kernel
theorem dX11_land_24 : decode cX11_land 24 = .ok (.iconst (-1), 1) := by decide +kernel
theorem dX11_land_25 : decode cX11_land 25 = .ok (.putfield 39, 3) := by decide +kernel
theorem dX11_land_28 : decode cX11_land 28 = .ok (.aload_n 0, 1) := by decide +kernel
theorem dX11_land_29 : decode cX11_land 29 = .ok (.iconst 1, 1) := by decide +kernel
theorem dX11_land_30 : decode cX11_land 30 = .ok (.aload_n 0, 1) := by decide +kernel
theorem dX11_land_31 : decode cX11_land 31 = .ok (.getfield 48, 3) := by decide +kernel
theorem dX11_land_34 : decode cX11_land 34 = .ok (.isub, 1) := by decide +kernel
theorem dX11_land_35 : decode cX11_land 35 = .ok (.putfield 127, 3) := by decide +kernel
theorem dX11_land_38 : decode cX11_land 38 = .ok (.iconst 0, 1) := by decide +kernel
theorem dX11_land_39 : decode cX11_land 39 = .ok (.istore_n 1, 1) := by decide +kernel
theorem dX11_land_40 : decode cX11_land 40 = .ok (.iload_n 1, 1) := by decide +kernel
theorem dX11_land_41 : decode cX11_land 41 = .ok (.bipush 26, 2) := by decide +kernel
theorem dX11_land_43 : decode cX11_land 43 = .ok (.if_icmp .ge 40, 3) := by decide +kernel
theorem dX11_land_46 : decode cX11_land 46 = .ok (.aload_n 0, 1) := by decide +kernel
theorem dX11_land_47 : decode cX11_land 47 = .ok (.getfield 51, 3) := by decide +kernel
theorem dX11_land_50 : decode cX11_land 50 = .ok (.bipush 26, 2) := by decide +kernel
theorem dX11_land_52 : decode cX11_land 52 = .ok (.aload_n 0, 1) := by decide +kernel
theorem dX11_land_53 : decode cX11_land 53 = .ok (.getfield 127, 3) := by decide +kernel
theorem dX11_land_56 : decode cX11_land 56 = .ok (.imul, 1) := by decide +kernel
theorem dX11_land_57 : decode cX11_land 57 = .ok (.iload_n 1, 1) := by decide +kernel
theorem dX11_land_58 : decode cX11_land 58 = .ok (.iadd, 1) := by decide +kernel
theorem dX11_land_59 : decode cX11_land 59 = .ok (.bipush 10, 2) := by decide +kernel
theorem dX11_land_61 : decode cX11_land 61 = .ok (.iastore, 1) := by decide +kernel
theorem dX11_land_62 : decode cX11_land 62 = .ok (.aload_n 0, 1) := by decide +kernel
theorem dX11_land_63 : decode cX11_land 63 = .ok (.getfield 82, 3) := by decide +kernel
theorem dX11_land_66 : decode cX11_land 66 = .ok (.bipush 26, 2) := by decide +kernel
theorem dX11_land_68 : decode cX11_land 68 = .ok (.aload_n 0, 1) := by decide +kernel
theorem dX11_land_69 : decode cX11_land 69 = .ok (.getfield 127, 3) := by decide +kernel
theorem dX11_land_72 : decode cX11_land 72 = .ok (.imul, 1) := by decide +kernel
theorem dX11_land_73 : decode cX11_land 73 = .ok (.iload_n 1, 1) := by decide +kernel
theorem dX11_land_74 : decode cX11_land 74 = .ok (.iadd, 1) := by decide +kernel
theorem dX11_land_75 : decode cX11_land 75 = .ok (.iconst 0, 1) := by decide +kernel
theorem dX11_land_76 : decode cX11_land 76 = .ok (.iastore, 1) := by decide +kernel
theorem dX11_land_77 : decode cX11_land 77 = .ok (.iinc 1 1, 3) := by decide +kernel
theorem dX11_land_80 : decode cX11_land 80 = .ok (.goto (-40), 3) := by decide +kernel
theorem dX11_land_83 : decode cX11_land 83 = .ok (.aload_n 0, 1) := by decide +kernel
theorem dX11_land_84 : decode cX11_land 84 = .ok (.getfield 54, 3) := by decide +kernel
theorem dX11_land_87 : decode cX11_land 87 = .ok (.aload_n 0, 1) := by decide +kernel
theorem dX11_land_88 : decode cX11_land 88 = .ok (.getfield 127, 3) := by decide +kernel
theorem dX11_land_91 : decode cX11_land 91 = .ok (.iconst 0, 1) := by decide +kernel
theorem dX11_land_92 : decode cX11_land 92 = .ok (.iastore, 1) := by decide +kernel
theorem dX11_land_93 : decode cX11_land 93 = .ok (.aload_n 0, 1) := by decide +kernel
theorem dX11_land_94 : decode cX11_land 94 = .ok (.getfield 73, 3) := by decide +kernel
theorem dX11_land_97 : decode cX11_land 97 = .ok (.aload_n 0, 1) := by decide +kernel
theorem dX11_land_98 : decode cX11_land 98 = .ok (.getfield 127, 3) := by decide +kernel
theorem dX11_land_101 : decode cX11_land 101 = .ok (.iconst 0, 1) := by decide +kernel
theorem dX11_land_102 : decode cX11_land 102 = .ok (.iastore, 1) := by decide +kernel
theorem dX11_land_103 : decode cX11_land 103 = .ok (.aload_n 0, 1) := by decide +kernel
theorem dX11_land_104 : decode cX11_land 104 = .ok (.getfield 85, 3) := by decide +kernel
theorem dX11_land_107 : decode cX11_land 107 = .ok (.aload_n 0, 1) := by decide +kernel
theorem dX11_land_108 : decode cX11_land 108 = .ok (.getfield 127, 3) := by decide +kernel
theorem dX11_land_111 : decode cX11_land 111 = .ok (.iconst 0, 1) := by decide +kernel
theorem dX11_land_112 : decode cX11_land 112 = .ok (.iastore, 1) := by decide +kernel
theorem dX11_land_113 : decode cX11_land 113 = .ok (.aload_n 0, 1) := by decide +kernel
theorem dX11_land_114 : decode cX11_land 114 = .ok (.getfield 94, 3) := by decide +kernel
theorem dX11_land_117 : decode cX11_land 117 = .ok (.aload_n 0, 1) := by decide +kernel
theorem dX11_land_118 : decode cX11_land 118 = .ok (.getfield 127, 3) := by decide +kernel
theorem dX11_land_121 : decode cX11_land 121 = .ok (.iconst 0, 1) := by decide +kernel
theorem dX11_land_122 : decode cX11_land 122 = .ok (.iastore, 1) := by decide +kernel
theorem dX11_land_123 : decode cX11_land 123 = .ok (.aload_n 0, 1) := by decide +kernel
theorem dX11_land_124 : decode cX11_land 124 = .ok (.getfield 106, 3) := by decide +kernel
theorem dX11_land_127 : decode cX11_land 127 = .ok (.aload_n 0, 1) := by decide +kernel
theorem dX11_land_128 : decode cX11_land 128 = .ok (.getfield 127, 3) := by decide +kernel
theorem dX11_land_131 : decode cX11_land 131 = .ok (.iconst 0, 1) := by decide +kernel
theorem dX11_land_132 : decode cX11_land 132 = .ok (.iastore, 1) := by decide +kernel
theorem dX11_land_133 : decode cX11_land 133 = .ok (.aload_n 0, 1) := by decide +kernel
theorem dX11_land_134 : decode cX11_land 134 = .ok (.getfield 115, 3) := by decide +kernel
theorem dX11_land_137 : decode cX11_land 137 = .ok (.aload_n 0, 1) := by decide +kernel
theorem dX11_land_138 : decode cX11_land 138 = .ok (.getfield 127, 3) := by decide +kernel
theorem dX11_land_141 : decode cX11_land 141 = .ok (.iconst 0, 1) := by decide +kernel
theorem dX11_land_142 : decode cX11_land 142 = .ok (.iastore, 1) := by decide +kernel
theorem dX11_land_143 : decode cX11_land 143 = .ok (.aload_n 0, 1) := by decide +kernel
theorem dX11_land_144 : decode cX11_land 144 = .ok (.iconst 0, 1) := by decide +kernel
theorem dX11_land_145 : decode cX11_land 145 = .ok (.putfield 124, 3) := by decide +kernel
theorem dX11_land_148 : decode cX11_land 148 = .ok (.iconst 0, 1) := by decide +kernel
theorem dX11_land_149 : decode cX11_land 149 = .ok (.istore_n 1, 1) := by decide +kernel
theorem dX11_land_150 : decode cX11_land 150 = .ok (.aload_n 0, 1) := by decide +kernel
theorem dX11_land_151 : decode cX11_land 151 = .ok (.invokevirtual 256, 3) := by decide +kernel
theorem dX11_land_154 : decode cX11_land 154 = .ok (.aload_n 0, 1) := by decide +kernel
theorem dX11_land_155 : decode cX11_land 155 = .ok (.getfield 36, 3) := by decide +kernel
theorem dX11_land_158 : decode cX11_land 158 = .ok (.ifCond .ne 20, 3) := by decide +kernel
theorem dX11_land_161 : decode cX11_land 161 = .ok (.aload_n 0, 1) := by decide +kernel
theorem dX11_land_162 : decode cX11_land 162 = .ok (.getfield 20, 3) := by decide +kernel
theorem dX11_land_165 : decode cX11_land 165 = .ok (.ifCond .eq 13, 3) := by decide +kernel
theorem dX11_land_168 : decode cX11_land 168 = .ok (.aload_n 0, 1) := by decide +kernel
theorem dX11_land_169 : decode cX11_land 169 = .ok (.invokevirtual 412, 3) := by decide +kernel
theorem dX11_land_172 : decode cX11_land 172 = .ok (.iinc 1 1, 3) := by decide +kernel
theorem dX11_land_175 : decode cX11_land 175 = .ok (.goto (-21), 3) := by decide +kernel
theorem dX11_land_178 : decode cX11_land 178 = .ok (.aload_n 0, 1) := by decide +kernel
theorem dX11_land_179 : decode cX11_land 179 = .ok (.aload_n 0, 1) := by decide +kernel
theorem dX11_land_180 : decode cX11_land 180 = .ok (.getfield 36, 3) := by decide +kernel
theorem dX11_land_183 : decode cX11_land 183 = .ok (.putfield 42, 3) := by decide +kernel
theorem dX11_land_186 : decode cX11_land 186 = .ok (.aload_n 0, 1) := by decide +kernel
theorem dX11_land_187 : decode cX11_land 187 = .ok (.aload_n 0, 1) := by decide +kernel
theorem dX11_land_188 : decode cX11_land 188 = .ok (.getfield 39, 3) := by decide +kernel
theorem dX11_land_191 : decode cX11_land 191 = .ok (.putfield 45, 3) := by decide +kernel
theorem dX11_land_194 : decode cX11_land 194 = .ok (.aload_n 0, 1) := by decide +kernel
theorem dX11_land_195 : decode cX11_land 195 = .ok (.getfield 36, 3) := by decide +kernel
theorem dX11_land_198 : decode cX11_land 198 = .ok (.ifCond .le 9, 3) := by decide +kernel
theorem dX11_land_201 : decode cX11_land 201 = .ok (.aload_n 0, 1) := by decide +kernel
theorem dX11_land_202 : decode cX11_land 202 = .ok (.iconst 1, 1) := by decide +kernel
theorem dX11_land_203 : decode cX11_land 203 = .ok (.invokevirtual 234, 3) := by decide +kernel
theorem dX11_land_206 : decode cX11_land 206 = .ok (.ireturn, 1) := by decide +kernel
theorem dX11_land_207 : decode cX11_land 207 = .ok (.aload_n 0, 1) := by decide +kernel
theorem dX11_land_208 : decode cX11_land 208 = .ok (.aload_n 0, 1) := by decide +kernel
theorem dX11_land_209 : decode cX11_land 209 = .ok (.getfield 127, 3) := by decide +kernel
theorem dX11_land_212 : decode cX11_land 212 = .ok (.putfield 48, 3) := by decide +kernel
theorem dX11_land_215 : decode cX11_land 215 = .ok (.aload_n 0, 1) := by decide +kernel
theorem dX11_land_216 : decode cX11_land 216 = .ok (.invokevirtual 415, 3) := by decide +kernel
theorem dX11_land_219 : decode cX11_land 219 = .ok (.iload_n 1, 1) := by decide +kernel
theorem dX11_land_220 : decode cX11_land 220 = .ok (.ireturn, 1) := by decide +kernel
theorem dX11_fault_0 : decode cX11_fault 0 = .ok (.iload_n 1, 1) := by decide +kernel
theorem dX11_fault_1 : decode cX11_fault 1 = .ok (.ifCond .ne 10, 3) := by decide +kernel
theorem dX11_fault_4 : decode cX11_fault 4 = .ok (.aload_n 0, 1) := by decide +kernel
theorem dX11_fault_5 : decode cX11_fault 5 = .ok (.getfield 42, 3) := by decide +kernel
theorem dX11_fault_8 : decode cX11_fault 8 = .ok (.goto 16, 3) := by decide +kernel
theorem dX11_fault_11 : decode cX11_fault 11 = .ok (.iload_n 1, 1) := by decide +kernel
theorem dX11_fault_12 : decode cX11_fault 12 = .ok (.iconst 1, 1) := by decide +kernel
theorem dX11_fault_13 : decode cX11_fault 13 = .ok (.if_icmp .ne 10, 3) := by decide +kernel
theorem dX11_fault_16 : decode cX11_fault 16 = .ok (.aload_n 0, 1) := by decide +kernel
theorem dX11_fault_17 : decode cX11_fault 17 = .ok (.getfield 45, 3) := by decide +kernel
theorem dX11_fault_20 : decode cX11_fault 20 = .ok (.goto 4, 3) := by decide +kernel
theorem dX11_fault_23 : decode cX11_fault 23 = .ok (.iconst (-1), 1) := by decide +kernel
theorem dX11_fault_24 : decode cX11_fault 24 = .ok (.ireturn, 1) := by decide +kernel
theorem dX11_refuses_0 : decode cX11_refuses 0 = .ok (.aload_n 0, 1) := by decide +kernel
theorem dX11_refuses_1 : decode cX11_refuses 1 = .ok (.getfield 162, 3) := by decide +kernel
theorem dX11_refuses_4 : decode cX11_refuses 4 = .ok (.iload_n 1, 1) := by decide +kernel
theorem dX11_refuses_5 : decode cX11_refuses 5 = .ok (.dup2, 1) := by decide +kernel
theorem dX11_refuses_6 : decode cX11_refuses 6 = .ok (.iaload, 1) := by decide +kernel
theorem dX11_refuses_7 : decode cX11_refuses 7 = .ok (.iconst 1, 1) := by decide +kernel
theorem dX11_refuses_8 : decode cX11_refuses 8 = .ok (.iadd, 1) := by decide +kernel
theorem dX11_refuses_9 : decode cX11_refuses 9 = .ok (.iastore, 1) := by decide +kernel
theorem dX11_refuses_10 : decode cX11_refuses 10 = .ok (.iconst (-1), 1) := by decide +kernel
theorem dX11_refuses_11 : decode cX11_refuses 11 = .ok (.ireturn, 1) := by decide +kernel
theorem dX11_status_0 : decode cX11_status 0 = .ok (.iload_n 1, 1) := by decide +kernel
theorem dX11_status_1 : decode cX11_status 1 = .ok (.iconst 0, 1) := by decide +kernel
theorem dX11_status_2 : decode cX11_status 2 = .ok (.iconst 5, 1) := by decide +kernel
theorem dX11_status_3 : decode cX11_status 3 = .ok (.invokestatic 309, 3) := by decide +kernel
theorem dX11_status_6 : decode cX11_status 6 = .ok (.ifCond .eq 12, 3) := by decide +kernel
theorem dX11_status_9 : decode cX11_status 9 = .ok (.aload_n 0, 1) := by decide +kernel
theorem dX11_status_10 : decode cX11_status 10 = .ok (.getfield 162, 3) := by decide +kernel
theorem dX11_status_13 : decode cX11_status 13 = .ok (.iload_n 1, 1) := by decide +kernel
theorem dX11_status_14 : decode cX11_status 14 = .ok (.iaload, 1) := by decide +kernel
theorem dX11_status_15 : decode cX11_status 15 = .ok (.goto 4, 3) := by decide +kernel
theorem dX11_status_18 : decode cX11_status 18 = .ok (.iconst (-1), 1) := by decide +kernel
theorem dX11_status_19 : decode cX11_status 19 = .ok (.ireturn, 1) := by decide +kernel
theorem dX11_bounded_0 : decode cX11_bounded 0 = .ok (.lload_n 0, 1) := by decide +kernel
theorem dX11_bounded_1 : decode cX11_bounded 1 = .ok (.ldc2_w 417, 3) := by decide +kernel
theorem dX11_bounded_4 : decode cX11_bounded 4 = .ok (.lcmp, 1) := by decide +kernel
theorem dX11_bounded_5 : decode cX11_bounded 5 = .ok (.ifCond .le 9, 3) := by decide +kernel
theorem dX11_bounded_8 : decode cX11_bounded 8 = .ok (.ldc2_w 417, 3) := by decide +kernel
theorem dX11_bounded_11 : decode cX11_bounded 11 = .ok (.goto 18, 3) := by decide +kernel
theorem dX11_bounded_14 : decode cX11_bounded 14 = .ok (.lload_n 0, 1) := by decide +kernel
theorem dX11_bounded_15 : decode cX11_bounded 15 = .ok (.ldc2_w 419, 3) := by decide +kernel
theorem dX11_bounded_18 : decode cX11_bounded 18 = .ok (.lcmp, 1) := by decide +kernel
theorem dX11_bounded_19 : decode cX11_bounded 19 = .ok (.ifCond .ge 9, 3) := by decide +kernel
theorem dX11_bounded_22 : decode cX11_bounded 22 = .ok (.ldc2_w 419, 3) := by decide +kernel
theorem dX11_bounded_25 : decode cX11_bounded 25 = .ok (.goto 4, 3) := by decide +kernel
theorem dX11_bounded_28 : decode cX11_bounded 28 = .ok (.lload_n 0, 1) := by decide +kernel
theorem dX11_bounded_29 : decode cX11_bounded 29 = .ok (.lreturn, 1) := by decide +kernel
theorem dX11_over_0 : decode cX11_over 0 = .ok (.lload_n 2, 1) := by decide +kernel
theorem dX11_over_1 : decode cX11_over 1 = .ok (.lconst 0, 1) := by decide +kernel
theorem dX11_over_2 : decode cX11_over 2 = .ok (.lcmp, 1) := by decide +kernel
theorem dX11_over_3 : decode cX11_over 3 = .ok (.ifCond .ne 5, 3) := by decide +kernel
theorem dX11_over_6 : decode cX11_over 6 = .ok (.lconst 0, 1) := by decide +kernel
theorem dX11_over_7 : decode cX11_over 7 = .ok (.lreturn, 1) := by decide +kernel
theorem dX11_over_8 : decode cX11_over 8 = .ok (.lload_n 0, 1) := by decide +kernel
theorem dX11_over_9 : decode cX11_over 9 = .ok (.lload_n 2, 1) := by decide +kernel
theorem dX11_over_10 : decode cX11_over 10 = .ok (.ldiv, 1) := by decide +kernel
theorem dX11_over_11 : decode cX11_over 11 = .ok (.lstore 4, 2) := by decide +kernel
theorem dX11_over_13 : decode cX11_over 13 = .ok (.lload_n 0, 1) := by decide +kernel
theorem dX11_over_14 : decode cX11_over 14 = .ok (.lload_n 2, 1) := by decide +kernel
theorem dX11_over_15 : decode cX11_over 15 = .ok (.lrem, 1) := by decide +kernel
theorem dX11_over_16 : decode cX11_over 16 = .ok (.lconst 0, 1) := by decide +kernel
theorem dX11_over_17 : decode cX11_over 17 = .ok (.lcmp, 1) := by decide +kernel
theorem dX11_over_18 : decode cX11_over 18 = .ok (.ifCond .eq 35, 3) := by decide +kernel
theorem dX11_over_21 : decode cX11_over 21 = .ok (.lload_n 0, 1) := by decide +kernel
theorem dX11_over_22 : decode cX11_over 22 = .ok (.lconst 0, 1) := by decide +kernel
theorem dX11_over_23 : decode cX11_over 23 = .ok (.lcmp, 1) := by decide +kernel
theorem dX11_over_24 : decode cX11_over 24 = .ok (.ifCond .ge 7, 3) := by decide +kernel
theorem dX11_over_27 : decode cX11_over 27 = .ok (.iconst 1, 1) := by decide +kernel
theorem dX11_over_28 : decode cX11_over 28 = .ok (.goto 4, 3) := by decide +kernel
theorem dX11_over_31 : decode cX11_over 31 = .ok (.iconst 0, 1) := by decide +kernel
theorem dX11_over_32 : decode cX11_over 32 = .ok (.lload_n 2, 1) := by decide +kernel
theorem dX11_over_33 : decode cX11_over 33 = .ok (.lconst 0, 1) := by decide +kernel
theorem dX11_over_34 : decode cX11_over 34 = .ok (.lcmp, 1) := by decide +kernel
theorem dX11_over_35 : decode cX11_over 35 = .ok (.ifCond .ge 7, 3) := by decide +kernel
theorem dX11_over_38 : decode cX11_over 38 = .ok (.iconst 1, 1) := by decide +kernel
theorem dX11_over_39 : decode cX11_over 39 = .ok (.goto 4, 3) := by decide +kernel
theorem dX11_over_42 : decode cX11_over 42 = .ok (.iconst 0, 1) := by decide +kernel
theorem dX11_over_43 : decode cX11_over 43 = .ok (.if_icmp .eq 10, 3) := by decide +kernel
theorem dX11_over_46 : decode cX11_over 46 = .ok (.lload 4, 2) := by decide +kernel
theorem dX11_over_48 : decode cX11_over 48 = .ok (.lconst 1, 1) := by decide +kernel
theorem dX11_over_49 : decode cX11_over 49 = .ok (.lsub, 1) := by decide +kernel
theorem dX11_over_50 : decode cX11_over 50 = .ok (.goto 5, 3) := by decide +kernel
theorem dX11_over_53 : decode cX11_over 53 = .ok (.lload 4, 2) := by decide +kernel
theorem dX11_over_55 : decode cX11_over 55 = .ok (.lreturn, 1) := by decide +kernel
theorem dX11_made_0 : decode cX11_made 0 = .ok (.iload_n 0, 1) := by decide +kernel
theorem dX11_made_1 : decode cX11_made 1 = .ok (.tableswitch 170 10 20 #[59, 66, 73, 80, 86, 106, 118, 130, 142, 154, 166], 59) := by decide +kernel
theorem dX11_made_60 : decode cX11_made 60 = .ok (.lload_n 1, 1) := by decide +kernel
theorem dX11_made_61 : decode cX11_made 61 = .ok (.lload_n 3, 1) := by decide +kernel
theorem dX11_made_62 : decode cX11_made 62 = .ok (.ladd, 1) := by decide +kernel
theorem dX11_made_63 : decode cX11_made 63 = .ok (.invokestatic 421, 3) := by decide +kernel
theorem dX11_made_66 : decode cX11_made 66 = .ok (.lreturn, 1) := by decide +kernel
theorem dX11_made_67 : decode cX11_made 67 = .ok (.lload_n 1, 1) := by decide +kernel
theorem dX11_made_68 : decode cX11_made 68 = .ok (.lload_n 3, 1) := by decide +kernel
theorem dX11_made_69 : decode cX11_made 69 = .ok (.lsub, 1) := by decide +kernel
theorem dX11_made_70 : decode cX11_made 70 = .ok (.invokestatic 421, 3) := by decide +kernel
theorem dX11_made_73 : decode cX11_made 73 = .ok (.lreturn, 1) := by decide +kernel
theorem dX11_made_74 : decode cX11_made 74 = .ok (.lload_n 1, 1) := by decide +kernel
theorem dX11_made_75 : decode cX11_made 75 = .ok (.lload_n 3, 1) := by decide +kernel
theorem dX11_made_76 : decode cX11_made 76 = .ok (.lmul, 1) := by decide +kernel
theorem dX11_made_77 : decode cX11_made 77 = .ok (.invokestatic 421, 3) := by decide +kernel
theorem dX11_made_80 : decode cX11_made 80 = .ok (.lreturn, 1) := by decide +kernel
theorem dX11_made_81 : decode cX11_made 81 = .ok (.lload_n 1, 1) := by decide +kernel
theorem dX11_made_82 : decode cX11_made 82 = .ok (.lload_n 3, 1) := by decide +kernel
theorem dX11_made_83 : decode cX11_made 83 = .ok (.invokestatic 425, 3) := by decide +kernel
theorem dX11_made_86 : decode cX11_made 86 = .ok (.lreturn, 1) := by decide +kernel
theorem dX11_made_87 : decode cX11_made 87 = .ok (.lload_n 3, 1) := by decide +kernel
theorem dX11_made_88 : decode cX11_made 88 = .ok (.lconst 0, 1) := by decide +kernel
theorem dX11_made_89 : decode cX11_made 89 = .ok (.lcmp, 1) := by decide +kernel
theorem dX11_made_90 : decode cX11_made 90 = .ok (.ifCond .ne 7, 3) := by decide +kernel
theorem dX11_made_93 : decode cX11_made 93 = .ok (.lconst 0, 1) := by decide +kernel
theorem dX11_made_94 : decode cX11_made 94 = .ok (.goto 12, 3) := by decide +kernel
theorem dX11_made_97 : decode cX11_made 97 = .ok (.lload_n 1, 1) := by decide +kernel
theorem dX11_made_98 : decode cX11_made 98 = .ok (.lload_n 3, 1) := by decide +kernel
theorem dX11_made_99 : decode cX11_made 99 = .ok (.lload_n 1, 1) := by decide +kernel
theorem dX11_made_100 : decode cX11_made 100 = .ok (.lload_n 3, 1) := by decide +kernel
theorem dX11_made_101 : decode cX11_made 101 = .ok (.invokestatic 425, 3) := by decide +kernel
theorem dX11_made_104 : decode cX11_made 104 = .ok (.lmul, 1) := by decide +kernel
theorem dX11_made_105 : decode cX11_made 105 = .ok (.lsub, 1) := by decide +kernel
theorem dX11_made_106 : decode cX11_made 106 = .ok (.lreturn, 1) := by decide +kernel
theorem dX11_made_107 : decode cX11_made 107 = .ok (.lload_n 1, 1) := by decide +kernel
theorem dX11_made_108 : decode cX11_made 108 = .ok (.lload_n 3, 1) := by decide +kernel
theorem dX11_made_109 : decode cX11_made 109 = .ok (.lcmp, 1) := by decide +kernel
theorem dX11_made_110 : decode cX11_made 110 = .ok (.ifCond .ge 7, 3) := by decide +kernel
theorem dX11_made_113 : decode cX11_made 113 = .ok (.lload_n 1, 1) := by decide +kernel
theorem dX11_made_114 : decode cX11_made 114 = .ok (.goto 4, 3) := by decide +kernel
theorem dX11_made_117 : decode cX11_made 117 = .ok (.lload_n 3, 1) := by decide +kernel
theorem dX11_made_118 : decode cX11_made 118 = .ok (.lreturn, 1) := by decide +kernel
theorem dX11_made_119 : decode cX11_made 119 = .ok (.lload_n 1, 1) := by decide +kernel
theorem dX11_made_120 : decode cX11_made 120 = .ok (.lload_n 3, 1) := by decide +kernel
theorem dX11_made_121 : decode cX11_made 121 = .ok (.lcmp, 1) := by decide +kernel
theorem dX11_made_122 : decode cX11_made 122 = .ok (.ifCond .le 7, 3) := by decide +kernel
theorem dX11_made_125 : decode cX11_made 125 = .ok (.lload_n 1, 1) := by decide +kernel
theorem dX11_made_126 : decode cX11_made 126 = .ok (.goto 4, 3) := by decide +kernel
theorem dX11_made_129 : decode cX11_made 129 = .ok (.lload_n 3, 1) := by decide +kernel
theorem dX11_made_130 : decode cX11_made 130 = .ok (.lreturn, 1) := by decide +kernel
theorem dX11_made_131 : decode cX11_made 131 = .ok (.lload_n 1, 1) := by decide +kernel
theorem dX11_made_132 : decode cX11_made 132 = .ok (.lload_n 3, 1) := by decide +kernel
theorem dX11_made_133 : decode cX11_made 133 = .ok (.lcmp, 1) := by decide +kernel
theorem dX11_made_134 : decode cX11_made 134 = .ok (.ifCond .ge 7, 3) := by decide +kernel
theorem dX11_made_137 : decode cX11_made 137 = .ok (.lconst 1, 1) := by decide +kernel
theorem dX11_made_138 : decode cX11_made 138 = .ok (.goto 4, 3) := by decide +kernel
theorem dX11_made_141 : decode cX11_made 141 = .ok (.lconst 0, 1) := by decide +kernel
theorem dX11_made_142 : decode cX11_made 142 = .ok (.lreturn, 1) := by decide +kernel
theorem dX11_made_143 : decode cX11_made 143 = .ok (.lload_n 1, 1) := by decide +kernel
theorem dX11_made_144 : decode cX11_made 144 = .ok (.lload_n 3, 1) := by decide +kernel
theorem dX11_made_145 : decode cX11_made 145 = .ok (.lcmp, 1) := by decide +kernel
theorem dX11_made_146 : decode cX11_made 146 = .ok (.ifCond .le 7, 3) := by decide +kernel
theorem dX11_made_149 : decode cX11_made 149 = .ok (.lconst 1, 1) := by decide +kernel
theorem dX11_made_150 : decode cX11_made 150 = .ok (.goto 4, 3) := by decide +kernel
theorem dX11_made_153 : decode cX11_made 153 = .ok (.lconst 0, 1) := by decide +kernel
theorem dX11_made_154 : decode cX11_made 154 = .ok (.lreturn, 1) := by decide +kernel
theorem dX11_made_155 : decode cX11_made 155 = .ok (.lload_n 1, 1) := by decide +kernel
theorem dX11_made_156 : decode cX11_made 156 = .ok (.lload_n 3, 1) := by decide +kernel
theorem dX11_made_157 : decode cX11_made 157 = .ok (.lcmp, 1) := by decide +kernel
theorem dX11_made_158 : decode cX11_made 158 = .ok (.ifCond .ne 7, 3) := by decide +kernel
theorem dX11_made_161 : decode cX11_made 161 = .ok (.lconst 1, 1) := by decide +kernel
theorem dX11_made_162 : decode cX11_made 162 = .ok (.goto 4, 3) := by decide +kernel
theorem dX11_made_165 : decode cX11_made 165 = .ok (.lconst 0, 1) := by decide +kernel
theorem dX11_made_166 : decode cX11_made 166 = .ok (.lreturn, 1) := by decide +kernel
theorem dX11_made_167 : decode cX11_made 167 = .ok (.lload_n 1, 1) := by decide +kernel
theorem dX11_made_168 : decode cX11_made 168 = .ok (.lload_n 3, 1) := by decide +kernel
theorem dX11_made_169 : decode cX11_made 169 = .ok (.lmul, 1) := by decide +kernel
theorem dX11_made_170 : decode cX11_made 170 = .ok (.lreturn, 1) := by decide +kernel
theorem dX11_made_171 : decode cX11_made 171 = .ok (.lload_n 1, 1) := by decide +kernel
theorem dX11_made_172 : decode cX11_made 172 = .ok (.lload_n 3, 1) := by decide +kernel
theorem dX11_made_173 : decode cX11_made 173 = .ok (.ladd, 1) := by decide +kernel
theorem dX11_made_174 : decode cX11_made 174 = .ok (.lconst 0, 1) := by decide +kernel
theorem dX11_made_175 : decode cX11_made 175 = .ok (.lcmp, 1) := by decide +kernel
theorem dX11_made_176 : decode cX11_made 176 = .ok (.ifCond .le 7, 3) := by decide +kernel
theorem dX11_made_179 : decode cX11_made 179 = .ok (.lconst 1, 1) := by decide +kernel
theorem dX11_made_180 : decode cX11_made 180 = .ok (.goto 4, 3) := by decide +kernel
theorem dX11_made_183 : decode cX11_made 183 = .ok (.lconst 0, 1) := by decide +kernel
theorem dX11_made_184 : decode cX11_made 184 = .ok (.lreturn, 1) := by decide +kernel
theorem dX11_works_0 : decode cX11_works 0 = .ok (.iconst 0, 1) := by decide +kernel
theorem dX11_works_1 : decode cX11_works 1 = .ok (.istore_n 3, 1) := by decide +kernel
theorem dX11_works_2 : decode cX11_works 2 = .ok (.sipush 1600, 3) := by decide +kernel
theorem dX11_works_5 : decode cX11_works 5 = .ok (.aload_n 0, 1) := by decide +kernel
theorem dX11_works_6 : decode cX11_works 6 = .ok (.getfield 48, 3) := by decide +kernel
theorem dX11_works_9 : decode cX11_works 9 = .ok (.imul, 1) := by decide +kernel
theorem dX11_works_10 : decode cX11_works 10 = .ok (.iload_n 1, 1) := by decide +kernel
theorem dX11_works_11 : decode cX11_works 11 = .ok (.iadd, 1) := by decide +kernel
theorem dX11_works_12 : decode cX11_works 12 = .ok (.istore 4, 2) := by decide +kernel
theorem dX11_works_14 : decode cX11_works 14 = .ok (.iload 4, 2) := by decide +kernel
theorem dX11_works_16 : decode cX11_works 16 = .ok (.sipush 1600, 3) := by decide +kernel
theorem dX11_works_19 : decode cX11_works 19 = .ok (.aload_n 0, 1) := by decide +kernel
theorem dX11_works_20 : decode cX11_works 20 = .ok (.getfield 48, 3) := by decide +kernel
theorem dX11_works_23 : decode cX11_works 23 = .ok (.imul, 1) := by decide +kernel
theorem dX11_works_24 : decode cX11_works 24 = .ok (.iload_n 2, 1) := by decide +kernel
theorem dX11_works_25 : decode cX11_works 25 = .ok (.iadd, 1) := by decide +kernel
theorem dX11_works_26 : decode cX11_works 26 = .ok (.if_icmp .ge 130, 3) := by decide +kernel
theorem dX11_works_29 : decode cX11_works 29 = .ok (.aload_n 0, 1) := by decide +kernel
theorem dX11_works_30 : decode cX11_works 30 = .ok (.getfield 118, 3) := by decide +kernel
theorem dX11_works_33 : decode cX11_works 33 = .ok (.iload 4, 2) := by decide +kernel
theorem dX11_works_35 : decode cX11_works 35 = .ok (.iaload, 1) := by decide +kernel
theorem dX11_works_36 : decode cX11_works 36 = .ok (.istore 5, 2) := by decide +kernel
theorem dX11_works_38 : decode cX11_works 38 = .ok (.iload 5, 2) := by decide +kernel
theorem dX11_works_40 : decode cX11_works 40 = .ok (.bipush 9, 2) := by decide +kernel
theorem dX11_works_42 : decode cX11_works 42 = .ok (.if_icmp .gt 50, 3) := by decide +kernel
theorem dX11_works_45 : decode cX11_works 45 = .ok (.aload_n 0, 1) := by decide +kernel
theorem dX11_works_46 : decode cX11_works 46 = .ok (.getfield 165, 3) := by decide +kernel
theorem dX11_works_49 : decode cX11_works 49 = .ok (.iload_n 3, 1) := by decide +kernel
theorem dX11_works_50 : decode cX11_works 50 = .ok (.iload 5, 2) := by decide +kernel
theorem dX11_works_52 : decode cX11_works 52 = .ok (.ifCond .ne 14, 3) := by decide +kernel
theorem dX11_works_55 : decode cX11_works 55 = .ok (.aload_n 0, 1) := by decide +kernel
theorem dX11_works_56 : decode cX11_works 56 = .ok (.getfield 121, 3) := by decide +kernel
theorem dX11_works_59 : decode cX11_works 59 = .ok (.iload 4, 2) := by decide +kernel
theorem dX11_works_61 : decode cX11_works 61 = .ok (.iaload, 1) := by decide +kernel
theorem dX11_works_62 : decode cX11_works 62 = .ok (.i2l, 1) := by decide +kernel
theorem dX11_works_63 : decode cX11_works 63 = .ok (.goto 22, 3) := by decide +kernel
theorem dX11_works_66 : decode cX11_works 66 = .ok (.iload 5, 2) := by decide +kernel
theorem dX11_works_68 : decode cX11_works 68 = .ok (.bipush 9, 2) := by decide +kernel
theorem dX11_works_70 : decode cX11_works 70 = .ok (.if_icmp .ne 7, 3) := by decide +kernel
theorem dX11_works_73 : decode cX11_works 73 = .ok (.lconst 1, 1) := by decide +kernel
theorem dX11_works_74 : decode cX11_works 74 = .ok (.goto 11, 3) := by decide +kernel
theorem dX11_works_77 : decode cX11_works 77 = .ok (.aload_n 0, 1) := by decide +kernel
theorem dX11_works_78 : decode cX11_works 78 = .ok (.getfield 168, 3) := by decide +kernel
theorem dX11_works_81 : decode cX11_works 81 = .ok (.iload 5, 2) := by decide +kernel
theorem dX11_works_83 : decode cX11_works 83 = .ok (.iaload, 1) := by decide +kernel
theorem dX11_works_84 : decode cX11_works 84 = .ok (.i2l, 1) := by decide +kernel
theorem dX11_works_85 : decode cX11_works 85 = .ok (.lastore, 1) := by decide +kernel
theorem dX11_works_86 : decode cX11_works 86 = .ok (.iinc 3 1, 3) := by decide +kernel
theorem dX11_works_89 : decode cX11_works 89 = .ok (.goto 61, 3) := by decide +kernel
theorem dX11_works_92 : decode cX11_works 92 = .ok (.iload 5, 2) := by decide +kernel
theorem dX11_works_94 : decode cX11_works 94 = .ok (.bipush 22, 2) := by decide +kernel
theorem dX11_works_96 : decode cX11_works 96 = .ok (.if_icmp .ne 24, 3) := by decide +kernel
theorem dX11_works_99 : decode cX11_works 99 = .ok (.aload_n 0, 1) := by decide +kernel
theorem dX11_works_100 : decode cX11_works 100 = .ok (.getfield 165, 3) := by decide +kernel
theorem dX11_works_103 : decode cX11_works 103 = .ok (.iload_n 3, 1) := by decide +kernel
theorem dX11_works_104 : decode cX11_works 104 = .ok (.iconst 1, 1) := by decide +kernel
theorem dX11_works_105 : decode cX11_works 105 = .ok (.isub, 1) := by decide +kernel
theorem dX11_works_106 : decode cX11_works 106 = .ok (.lconst 1, 1) := by decide +kernel
theorem dX11_works_107 : decode cX11_works 107 = .ok (.aload_n 0, 1) := by decide +kernel
theorem dX11_works_108 : decode cX11_works 108 = .ok (.getfield 165, 3) := by decide +kernel
theorem dX11_works_111 : decode cX11_works 111 = .ok (.iload_n 3, 1) := by decide +kernel
theorem dX11_works_112 : decode cX11_works 112 = .ok (.iconst 1, 1) := by decide +kernel
theorem dX11_works_113 : decode cX11_works 113 = .ok (.isub, 1) := by decide +kernel
theorem dX11_works_114 : decode cX11_works 114 = .ok (.laload, 1) := by decide +kernel
theorem dX11_works_115 : decode cX11_works 115 = .ok (.lsub, 1) := by decide +kernel
theorem dX11_works_116 : decode cX11_works 116 = .ok (.lastore, 1) := by decide +kernel
theorem dX11_works_117 : decode cX11_works 117 = .ok (.goto 33, 3) := by decide +kernel
theorem dX11_works_120 : decode cX11_works 120 = .ok (.iinc 3 (-1), 3) := by decide +kernel
theorem dX11_works_123 : decode cX11_works 123 = .ok (.aload_n 0, 1) := by decide +kernel
theorem dX11_works_124 : decode cX11_works 124 = .ok (.getfield 165, 3) := by decide +kernel
theorem dX11_works_127 : decode cX11_works 127 = .ok (.iload_n 3, 1) := by decide +kernel
theorem dX11_works_128 : decode cX11_works 128 = .ok (.iconst 1, 1) := by decide +kernel
theorem dX11_works_129 : decode cX11_works 129 = .ok (.isub, 1) := by decide +kernel
theorem dX11_works_130 : decode cX11_works 130 = .ok (.iload 5, 2) := by decide +kernel
theorem dX11_works_132 : decode cX11_works 132 = .ok (.aload_n 0, 1) := by decide +kernel
theorem dX11_works_133 : decode cX11_works 133 = .ok (.getfield 165, 3) := by decide +kernel
theorem dX11_works_136 : decode cX11_works 136 = .ok (.iload_n 3, 1) := by decide +kernel
theorem dX11_works_137 : decode cX11_works 137 = .ok (.iconst 1, 1) := by decide +kernel
theorem dX11_works_138 : decode cX11_works 138 = .ok (.isub, 1) := by decide +kernel
theorem dX11_works_139 : decode cX11_works 139 = .ok (.laload, 1) := by decide +kernel
theorem dX11_works_140 : decode cX11_works 140 = .ok (.aload_n 0, 1) := by decide +kernel
theorem dX11_works_141 : decode cX11_works 141 = .ok (.getfield 165, 3) := by decide +kernel
theorem dX11_works_144 : decode cX11_works 144 = .ok (.iload_n 3, 1) := by decide +kernel
theorem dX11_works_145 : decode cX11_works 145 = .ok (.laload, 1) := by decide +kernel
theorem dX11_works_146 : decode cX11_works 146 = .ok (.invokestatic 429, 3) := by decide +kernel
theorem dX11_works_149 : decode cX11_works 149 = .ok (.lastore, 1) := by decide +kernel
theorem dX11_works_150 : decode cX11_works 150 = .ok (.iinc 4 1, 3) := by decide +kernel
theorem dX11_works_153 : decode cX11_works 153 = .ok (.goto (-139), 3) := by decide +kernel
theorem dX11_works_156 : decode cX11_works 156 = .ok (.aload_n 0, 1) := by decide +kernel
theorem dX11_works_157 : decode cX11_works 157 = .ok (.getfield 165, 3) := by decide +kernel
theorem dX11_works_160 : decode cX11_works 160 = .ok (.iconst 0, 1) := by decide +kernel
theorem dX11_works_161 : decode cX11_works 161 = .ok (.laload, 1) := by decide +kernel
theorem dX11_works_162 : decode cX11_works 162 = .ok (.lreturn, 1) := by decide +kernel
theorem dX11_begins_0 : decode cX11_begins 0 = .ok (.aload_n 0, 1) := by decide +kernel
theorem dX11_begins_1 : decode cX11_begins 1 = .ok (.aload_n 0, 1) := by decide +kernel
theorem dX11_begins_2 : decode cX11_begins 2 = .ok (.getfield 115, 3) := by decide +kernel
theorem dX11_begins_5 : decode cX11_begins 5 = .ok (.aload_n 0, 1) := by decide +kernel
theorem dX11_begins_6 : decode cX11_begins 6 = .ok (.getfield 48, 3) := by decide +kernel
theorem dX11_begins_9 : decode cX11_begins 9 = .ok (.iaload, 1) := by decide +kernel
theorem dX11_begins_10 : decode cX11_begins 10 = .ok (.putfield 171, 3) := by decide +kernel
theorem dX11_begins_13 : decode cX11_begins 13 = .ok (.iconst 0, 1) := by decide +kernel
theorem dX11_begins_14 : decode cX11_begins 14 = .ok (.istore_n 1, 1) := by decide +kernel
theorem dX11_begins_15 : decode cX11_begins 15 = .ok (.iload_n 1, 1) := by decide +kernel
theorem dX11_begins_16 : decode cX11_begins 16 = .ok (.bipush 8, 2) := by decide +kernel
theorem dX11_begins_18 : decode cX11_begins 18 = .ok (.if_icmp .ge 75, 3) := by decide +kernel
theorem dX11_begins_21 : decode cX11_begins 21 = .ok (.aload_n 0, 1) := by decide +kernel
theorem dX11_begins_22 : decode cX11_begins 22 = .ok (.getfield 174, 3) := by decide +kernel
theorem dX11_begins_25 : decode cX11_begins 25 = .ok (.iload_n 1, 1) := by decide +kernel
theorem dX11_begins_26 : decode cX11_begins 26 = .ok (.iload_n 1, 1) := by decide +kernel
theorem dX11_begins_27 : decode cX11_begins 27 = .ok (.aload_n 0, 1) := by decide +kernel
theorem dX11_begins_28 : decode cX11_begins 28 = .ok (.getfield 54, 3) := by decide +kernel
theorem dX11_begins_31 : decode cX11_begins 31 = .ok (.aload_n 0, 1) := by decide +kernel
theorem dX11_begins_32 : decode cX11_begins 32 = .ok (.getfield 48, 3) := by decide +kernel
theorem dX11_begins_35 : decode cX11_begins 35 = .ok (.iaload, 1) := by decide +kernel
theorem dX11_begins_36 : decode cX11_begins 36 = .ok (.if_icmp .ge 20, 3) := by decide +kernel
theorem dX11_begins_39 : decode cX11_begins 39 = .ok (.aload_n 0, 1) := by decide +kernel
theorem dX11_begins_40 : decode cX11_begins 40 = .ok (.getfield 70, 3) := by decide +kernel
theorem dX11_begins_43 : decode cX11_begins 43 = .ok (.bipush 8, 2) := by decide +kernel
theorem dX11_begins_45 : decode cX11_begins 45 = .ok (.aload_n 0, 1) := by decide +kernel
theorem dX11_begins_46 : decode cX11_begins 46 = .ok (.getfield 48, 3) := by decide +kernel
theorem dX11_begins_49 : decode cX11_begins 49 = .ok (.imul, 1) := by decide +kernel
theorem dX11_begins_50 : decode cX11_begins 50 = .ok (.iload_n 1, 1) := by decide +kernel
theorem dX11_begins_51 : decode cX11_begins 51 = .ok (.iadd, 1) := by decide +kernel
theorem dX11_begins_52 : decode cX11_begins 52 = .ok (.iaload, 1) := by decide +kernel
theorem dX11_begins_53 : decode cX11_begins 53 = .ok (.goto 4, 3) := by decide +kernel
theorem dX11_begins_56 : decode cX11_begins 56 = .ok (.iconst 0, 1) := by decide +kernel
theorem dX11_begins_57 : decode cX11_begins 57 = .ok (.iastore, 1) := by decide +kernel
theorem dX11_begins_58 : decode cX11_begins 58 = .ok (.iconst 0, 1) := by decide +kernel
theorem dX11_begins_59 : decode cX11_begins 59 = .ok (.istore_n 2, 1) := by decide +kernel
theorem dX11_begins_60 : decode cX11_begins 60 = .ok (.iload_n 2, 1) := by decide +kernel
theorem dX11_begins_61 : decode cX11_begins 61 = .ok (.bipush 12, 2) := by decide +kernel
theorem dX11_begins_63 : decode cX11_begins 63 = .ok (.if_icmp .ge 24, 3) := by decide +kernel
theorem dX11_begins_66 : decode cX11_begins 66 = .ok (.aload_n 0, 1) := by decide +kernel
theorem dX11_begins_67 : decode cX11_begins 67 = .ok (.getfield 213, 3) := by decide +kernel
theorem dX11_begins_70 : decode cX11_begins 70 = .ok (.bipush 12, 2) := by decide +kernel
theorem dX11_begins_72 : decode cX11_begins 72 = .ok (.iload_n 1, 1) := by decide +kernel
theorem dX11_begins_73 : decode cX11_begins 73 = .ok (.imul, 1) := by decide +kernel
theorem dX11_begins_74 : decode cX11_begins 74 = .ok (.iload_n 2, 1) := by decide +kernel
theorem dX11_begins_75 : decode cX11_begins 75 = .ok (.iadd, 1) := by decide +kernel
theorem dX11_begins_76 : decode cX11_begins 76 = .ok (.aload_n 0, 1) := by decide +kernel
theorem dX11_begins_77 : decode cX11_begins 77 = .ok (.getfield 171, 3) := by decide +kernel
theorem dX11_begins_80 : decode cX11_begins 80 = .ok (.iastore, 1) := by decide +kernel
theorem dX11_begins_81 : decode cX11_begins 81 = .ok (.iinc 2 1, 3) := by decide +kernel
theorem dX11_begins_84 : decode cX11_begins 84 = .ok (.goto (-24), 3) := by decide +kernel
theorem dX11_begins_87 : decode cX11_begins 87 = .ok (.iinc 1 1, 3) := by decide +kernel
theorem dX11_begins_90 : decode cX11_begins 90 = .ok (.goto (-75), 3) := by decide +kernel
theorem dX11_begins_93 : decode cX11_begins 93 = .ok (.iconst 0, 1) := by decide +kernel
theorem dX11_begins_94 : decode cX11_begins 94 = .ok (.istore_n 1, 1) := by decide +kernel
theorem dX11_begins_95 : decode cX11_begins 95 = .ok (.iload_n 1, 1) := by decide +kernel
theorem dX11_begins_96 : decode cX11_begins 96 = .ok (.sipush 208, 3) := by decide +kernel
theorem dX11_begins_99 : decode cX11_begins 99 = .ok (.if_icmp .ge 16, 3) := by decide +kernel
theorem dX11_begins_102 : decode cX11_begins 102 = .ok (.aload_n 0, 1) := by decide +kernel
theorem dX11_begins_103 : decode cX11_begins 103 = .ok (.getfield 177, 3) := by decide +kernel
theorem dX11_begins_106 : decode cX11_begins 106 = .ok (.iload_n 1, 1) := by decide +kernel
theorem dX11_begins_107 : decode cX11_begins 107 = .ok (.iconst 0, 1) := by decide +kernel
theorem dX11_begins_108 : decode cX11_begins 108 = .ok (.iastore, 1) := by decide +kernel
theorem dX11_begins_109 : decode cX11_begins 109 = .ok (.iinc 1 1, 3) := by decide +kernel
theorem dX11_begins_112 : decode cX11_begins 112 = .ok (.goto (-17), 3) := by decide +kernel
theorem dX11_begins_115 : decode cX11_begins 115 = .ok (.iconst 0, 1) := by decide +kernel
theorem dX11_begins_116 : decode cX11_begins 116 = .ok (.istore_n 1, 1) := by decide +kernel
theorem dX11_begins_117 : decode cX11_begins 117 = .ok (.iload_n 1, 1) := by decide +kernel
theorem dX11_begins_118 : decode cX11_begins 118 = .ok (.bipush 26, 2) := by decide +kernel
theorem dX11_begins_120 : decode cX11_begins 120 = .ok (.if_icmp .ge 33, 3) := by decide +kernel
theorem dX11_begins_123 : decode cX11_begins 123 = .ok (.aload_n 0, 1) := by decide +kernel
theorem dX11_begins_124 : decode cX11_begins 124 = .ok (.getfield 177, 3) := by decide +kernel
theorem dX11_begins_127 : decode cX11_begins 127 = .ok (.sipush 208, 3) := by decide +kernel
theorem dX11_begins_130 : decode cX11_begins 130 = .ok (.iload_n 1, 1) := by decide +kernel
theorem dX11_begins_131 : decode cX11_begins 131 = .ok (.iadd, 1) := by decide +kernel
theorem dX11_begins_132 : decode cX11_begins 132 = .ok (.aload_n 0, 1) := by decide +kernel
theorem dX11_begins_133 : decode cX11_begins 133 = .ok (.getfield 82, 3) := by decide +kernel
theorem dX11_begins_136 : decode cX11_begins 136 = .ok (.bipush 26, 2) := by decide +kernel
theorem dX11_begins_138 : decode cX11_begins 138 = .ok (.aload_n 0, 1) := by decide +kernel
theorem dX11_begins_139 : decode cX11_begins 139 = .ok (.getfield 48, 3) := by decide +kernel
theorem dX11_begins_142 : decode cX11_begins 142 = .ok (.imul, 1) := by decide +kernel
theorem dX11_begins_143 : decode cX11_begins 143 = .ok (.iload_n 1, 1) := by decide +kernel
theorem dX11_begins_144 : decode cX11_begins 144 = .ok (.iadd, 1) := by decide +kernel
theorem dX11_begins_145 : decode cX11_begins 145 = .ok (.iaload, 1) := by decide +kernel
theorem dX11_begins_146 : decode cX11_begins 146 = .ok (.iastore, 1) := by decide +kernel
theorem dX11_begins_147 : decode cX11_begins 147 = .ok (.iinc 1 1, 3) := by decide +kernel
theorem dX11_begins_150 : decode cX11_begins 150 = .ok (.goto (-33), 3) := by decide +kernel
theorem dX11_begins_153 : decode cX11_begins 153 = .ok (.aload_n 0, 1) := by decide +kernel
theorem dX11_begins_154 : decode cX11_begins 154 = .ok (.iconst 0, 1) := by decide +kernel
theorem dX11_begins_155 : decode cX11_begins 155 = .ok (.putfield 180, 3) := by decide +kernel
theorem dX11_begins_158 : decode cX11_begins 158 = .ok (.aload_n 0, 1) := by decide +kernel
theorem dX11_begins_159 : decode cX11_begins 159 = .ok (.iconst 0, 1) := by decide +kernel
theorem dX11_begins_160 : decode cX11_begins 160 = .ok (.putfield 183, 3) := by decide +kernel
theorem dX11_begins_163 : decode cX11_begins 163 = .ok (.aload_n 0, 1) := by decide +kernel
theorem dX11_begins_164 : decode cX11_begins 164 = .ok (.iconst 0, 1) := by decide +kernel
theorem dX11_begins_165 : decode cX11_begins 165 = .ok (.putfield 195, 3) := by decide +kernel
theorem dX11_begins_168 : decode cX11_begins 168 = .ok (.aload_n 0, 1) := by decide +kernel
theorem dX11_begins_169 : decode cX11_begins 169 = .ok (.iconst 0, 1) := by decide +kernel
theorem dX11_begins_170 : decode cX11_begins 170 = .ok (.putfield 201, 3) := by decide +kernel
theorem dX11_begins_173 : decode cX11_begins 173 = .ok (.aload_n 0, 1) := by decide +kernel
theorem dX11_begins_174 : decode cX11_begins 174 = .ok (.iconst 0, 1) := by decide +kernel
theorem dX11_begins_175 : decode cX11_begins 175 = .ok (.putfield 207, 3) := by decide +kernel
theorem dX11_begins_178 : decode cX11_begins 178 = .ok (.return_, 1) := by decide +kernel
theorem dX11_isPerson_0 : decode cX11_isPerson 0 = .ok (.iload_n 1, 1) := by decide +kernel
theorem dX11_isPerson_1 : decode cX11_isPerson 1 = .ok (.iconst 0, 1) := by decide +kernel
theorem dX11_isPerson_2 : decode cX11_isPerson 2 = .ok (.aload_n 0, 1) := by decide +kernel
theorem dX11_isPerson_3 : decode cX11_isPerson 3 = .ok (.getfield 54, 3) := by decide +kernel
theorem dX11_isPerson_6 : decode cX11_isPerson 6 = .ok (.aload_n 0, 1) := by decide +kernel
theorem dX11_isPerson_7 : decode cX11_isPerson 7 = .ok (.getfield 48, 3) := by decide +kernel
theorem dX11_isPerson_10 : decode cX11_isPerson 10 = .ok (.iaload, 1) := by decide +kernel
theorem dX11_isPerson_11 : decode cX11_isPerson 11 = .ok (.iconst 1, 1) := by decide +kernel
theorem dX11_isPerson_12 : decode cX11_isPerson 12 = .ok (.isub, 1) := by decide +kernel
theorem dX11_isPerson_13 : decode cX11_isPerson 13 = .ok (.invokestatic 309, 3) := by decide +kernel
theorem dX11_isPerson_16 : decode cX11_isPerson 16 = .ok (.ireturn, 1) := by decide +kernel
theorem dX11_isTitle_0 : decode cX11_isTitle 0 = .ok (.iload_n 1, 1) := by decide +kernel
theorem dX11_isTitle_1 : decode cX11_isTitle 1 = .ok (.iconst 0, 1) := by decide +kernel
theorem dX11_isTitle_2 : decode cX11_isTitle 2 = .ok (.aload_n 0, 1) := by decide +kernel
theorem dX11_isTitle_3 : decode cX11_isTitle 3 = .ok (.getfield 73, 3) := by decide +kernel
theorem dX11_isTitle_6 : decode cX11_isTitle 6 = .ok (.aload_n 0, 1) := by decide +kernel
theorem dX11_isTitle_7 : decode cX11_isTitle 7 = .ok (.getfield 48, 3) := by decide +kernel
theorem dX11_isTitle_10 : decode cX11_isTitle 10 = .ok (.iaload, 1) := by decide +kernel
theorem dX11_isTitle_11 : decode cX11_isTitle 11 = .ok (.iconst 1, 1) := by decide +kernel
theorem dX11_isTitle_12 : decode cX11_isTitle 12 = .ok (.isub, 1) := by decide +kernel
theorem dX11_isTitle_13 : decode cX11_isTitle 13 = .ok (.invokestatic 309, 3) := by decide +kernel
theorem dX11_isTitle_16 : decode cX11_isTitle 16 = .ok (.ireturn, 1) := by decide +kernel
theorem dX11_isLetterCode_0 : decode cX11_isLetterCode 0 = .ok (.iload_n 0, 1) := by decide +kernel
theorem dX11_isLetterCode_1 : decode cX11_isLetterCode 1 = .ok (.bipush 97, 2) := by decide +kernel
theorem dX11_isLetterCode_3 : decode cX11_isLetterCode 3 = .ok (.bipush 122, 2) := by decide +kernel
theorem dX11_isLetterCode_5 : decode cX11_isLetterCode 5 = .ok (.invokestatic 309, 3) := by decide +kernel
theorem dX11_isLetterCode_8 : decode cX11_isLetterCode 8 = .ok (.ireturn, 1) := by decide +kernel
theorem dX11_hasTitle_0 : decode cX11_hasTitle 0 = .ok (.aload_n 0, 1) := by decide +kernel
theorem dX11_hasTitle_1 : decode cX11_hasTitle 1 = .ok (.getfield 174, 3) := by decide +kernel
theorem dX11_hasTitle_4 : decode cX11_hasTitle 4 = .ok (.iload_n 1, 1) := by decide +kernel
theorem dX11_hasTitle_5 : decode cX11_hasTitle 5 = .ok (.iaload, 1) := by decide +kernel
theorem dX11_hasTitle_6 : decode cX11_hasTitle 6 = .ok (.iload_n 2, 1) := by decide +kernel
theorem dX11_hasTitle_7 : decode cX11_hasTitle 7 = .ok (.ishr, 1) := by decide +kernel
theorem dX11_hasTitle_8 : decode cX11_hasTitle 8 = .ok (.iconst 1, 1) := by decide +kernel
theorem dX11_hasTitle_9 : decode cX11_hasTitle 9 = .ok (.iand, 1) := by decide +kernel
theorem dX11_hasTitle_10 : decode cX11_hasTitle 10 = .ok (.iconst 1, 1) := by decide +kernel
theorem dX11_hasTitle_11 : decode cX11_hasTitle 11 = .ok (.if_icmp .ne 7, 3) := by decide +kernel
theorem dX11_hasTitle_14 : decode cX11_hasTitle 14 = .ok (.iconst 1, 1) := by decide +kernel
theorem dX11_hasTitle_15 : decode cX11_hasTitle 15 = .ok (.goto 4, 3) := by decide +kernel
theorem dX11_hasTitle_18 : decode cX11_hasTitle 18 = .ok (.iconst 0, 1) := by decide +kernel
theorem dX11_hasTitle_19 : decode cX11_hasTitle 19 = .ok (.ireturn, 1) := by decide +kernel
theorem dX11_weight_0 : decode cX11_weight 0 = .ok (.aload_n 0, 1) := by decide +kernel
theorem dX11_weight_1 : decode cX11_weight 1 = .ok (.getfield 51, 3) := by decide +kernel
theorem dX11_weight_4 : decode cX11_weight 4 = .ok (.bipush 26, 2) := by decide +kernel
theorem dX11_weight_6 : decode cX11_weight 6 = .ok (.aload_n 0, 1) := by decide +kernel
theorem dX11_weight_7 : decode cX11_weight 7 = .ok (.getfield 48, 3) := by decide +kernel
theorem dX11_weight_10 : decode cX11_weight 10 = .ok (.imul, 1) := by decide +kernel
theorem dX11_weight_11 : decode cX11_weight 11 = .ok (.iload_n 1, 1) := by decide +kernel
theorem dX11_weight_12 : decode cX11_weight 12 = .ok (.iadd, 1) := by decide +kernel
theorem dX11_weight_13 : decode cX11_weight 13 = .ok (.iaload, 1) := by decide +kernel
theorem dX11_weight_14 : decode cX11_weight 14 = .ok (.ireturn, 1) := by decide +kernel
theorem dX11_often_0 : decode cX11_often 0 = .ok (.iconst 0, 1) := by decide +kernel
theorem dX11_often_1 : decode cX11_often 1 = .ok (.istore_n 3, 1) := by decide +kernel
theorem dX11_often_2 : decode cX11_often 2 = .ok (.aload_n 0, 1) := by decide +kernel
theorem dX11_often_3 : decode cX11_often 3 = .ok (.getfield 76, 3) := by decide +kernel
theorem dX11_often_6 : decode cX11_often 6 = .ok (.bipush 12, 2) := by decide +kernel
theorem dX11_often_8 : decode cX11_often 8 = .ok (.aload_n 0, 1) := by decide +kernel
theorem dX11_often_9 : decode cX11_often 9 = .ok (.getfield 48, 3) := by decide +kernel
theorem dX11_often_12 : decode cX11_often 12 = .ok (.imul, 1) := by decide +kernel
theorem dX11_often_13 : decode cX11_often 13 = .ok (.iload_n 1, 1) := by decide +kernel
theorem dX11_often_14 : decode cX11_often 14 = .ok (.iadd, 1) := by decide +kernel
theorem dX11_often_15 : decode cX11_often 15 = .ok (.laload, 1) := by decide +kernel
theorem dX11_often_16 : decode cX11_often 16 = .ok (.lstore 4, 2) := by decide +kernel
theorem dX11_often_18 : decode cX11_often 18 = .ok (.lload 4, 2) := by decide +kernel
theorem dX11_often_20 : decode cX11_often 20 = .ok (.lconst 0, 1) := by decide +kernel
theorem dX11_often_21 : decode cX11_often 21 = .ok (.lcmp, 1) := by decide +kernel
theorem dX11_often_22 : decode cX11_often 22 = .ok (.ifCond .eq 35, 3) := by decide +kernel
theorem dX11_often_25 : decode cX11_often 25 = .ok (.iload_n 3, 1) := by decide +kernel
theorem dX11_often_26 : decode cX11_often 26 = .ok (.lload 4, 2) := by decide +kernel
theorem dX11_often_28 : decode cX11_often 28 = .ok (.ldc2_w 351, 3) := by decide +kernel
theorem dX11_often_31 : decode cX11_often 31 = .ok (.land, 1) := by decide +kernel
theorem dX11_often_32 : decode cX11_often 32 = .ok (.l2i, 1) := by decide +kernel
theorem dX11_often_33 : decode cX11_often 33 = .ok (.bipush 97, 2) := by decide +kernel
theorem dX11_often_35 : decode cX11_often 35 = .ok (.isub, 1) := by decide +kernel
theorem dX11_often_36 : decode cX11_often 36 = .ok (.iload_n 2, 1) := by decide +kernel
theorem dX11_often_37 : decode cX11_often 37 = .ok (.if_icmp .ne 7, 3) := by decide +kernel
theorem dX11_often_40 : decode cX11_often 40 = .ok (.iconst 1, 1) := by decide +kernel
theorem dX11_often_41 : decode cX11_often 41 = .ok (.goto 4, 3) := by decide +kernel
theorem dX11_often_44 : decode cX11_often 44 = .ok (.iconst 0, 1) := by decide +kernel
theorem dX11_often_45 : decode cX11_often 45 = .ok (.iadd, 1) := by decide +kernel
theorem dX11_often_46 : decode cX11_often 46 = .ok (.istore_n 3, 1) := by decide +kernel
theorem dX11_often_47 : decode cX11_often 47 = .ok (.lload 4, 2) := by decide +kernel
theorem dX11_often_49 : decode cX11_often 49 = .ok (.bipush 8, 2) := by decide +kernel
theorem dX11_often_51 : decode cX11_often 51 = .ok (.lushr, 1) := by decide +kernel
theorem dX11_often_52 : decode cX11_often 52 = .ok (.lstore 4, 2) := by decide +kernel
theorem dX11_often_54 : decode cX11_often 54 = .ok (.goto (-36), 3) := by decide +kernel
theorem dX11_often_57 : decode cX11_often 57 = .ok (.iload_n 3, 1) := by decide +kernel
theorem dX11_often_58 : decode cX11_often 58 = .ok (.ireturn, 1) := by decide +kernel
theorem dX11_lengthOf_0 : decode cX11_lengthOf 0 = .ok (.iconst 0, 1) := by decide +kernel
theorem dX11_lengthOf_1 : decode cX11_lengthOf 1 = .ok (.istore_n 2, 1) := by decide +kernel
theorem dX11_lengthOf_2 : decode cX11_lengthOf 2 = .ok (.aload_n 0, 1) := by decide +kernel
theorem dX11_lengthOf_3 : decode cX11_lengthOf 3 = .ok (.getfield 76, 3) := by decide +kernel
theorem dX11_lengthOf_6 : decode cX11_lengthOf 6 = .ok (.bipush 12, 2) := by decide +kernel
theorem dX11_lengthOf_8 : decode cX11_lengthOf 8 = .ok (.aload_n 0, 1) := by decide +kernel
theorem dX11_lengthOf_9 : decode cX11_lengthOf 9 = .ok (.getfield 48, 3) := by decide +kernel
theorem dX11_lengthOf_12 : decode cX11_lengthOf 12 = .ok (.imul, 1) := by decide +kernel
theorem dX11_lengthOf_13 : decode cX11_lengthOf 13 = .ok (.iload_n 1, 1) := by decide +kernel
theorem dX11_lengthOf_14 : decode cX11_lengthOf 14 = .ok (.iadd, 1) := by decide +kernel
theorem dX11_lengthOf_15 : decode cX11_lengthOf 15 = .ok (.laload, 1) := by decide +kernel
theorem dX11_lengthOf_16 : decode cX11_lengthOf 16 = .ok (.lstore_n 3, 1) := by decide +kernel
theorem dX11_lengthOf_17 : decode cX11_lengthOf 17 = .ok (.lload_n 3, 1) := by decide +kernel
theorem dX11_lengthOf_18 : decode cX11_lengthOf 18 = .ok (.lconst 0, 1) := by decide +kernel
theorem dX11_lengthOf_19 : decode cX11_lengthOf 19 = .ok (.lcmp, 1) := by decide +kernel
theorem dX11_lengthOf_20 : decode cX11_lengthOf 20 = .ok (.ifCond .eq 14, 3) := by decide +kernel
theorem dX11_lengthOf_23 : decode cX11_lengthOf 23 = .ok (.iinc 2 1, 3) := by decide +kernel
theorem dX11_lengthOf_26 : decode cX11_lengthOf 26 = .ok (.lload_n 3, 1) := by decide +kernel
theorem dX11_lengthOf_27 : decode cX11_lengthOf 27 = .ok (.bipush 8, 2) := by decide +kernel
theorem dX11_lengthOf_29 : decode cX11_lengthOf 29 = .ok (.lushr, 1) := by decide +kernel
theorem dX11_lengthOf_30 : decode cX11_lengthOf 30 = .ok (.lstore_n 3, 1) := by decide +kernel
theorem dX11_lengthOf_31 : decode cX11_lengthOf 31 = .ok (.goto (-14), 3) := by decide +kernel
theorem dX11_lengthOf_34 : decode cX11_lengthOf 34 = .ok (.iload_n 2, 1) := by decide +kernel
theorem dX11_lengthOf_35 : decode cX11_lengthOf 35 = .ok (.ireturn, 1) := by decide +kernel
theorem dX11_ouncesOf_0 : decode cX11_ouncesOf 0 = .ok (.iconst 0, 1) := by decide +kernel
theorem dX11_ouncesOf_1 : decode cX11_ouncesOf 1 = .ok (.istore_n 2, 1) := by decide +kernel
theorem dX11_ouncesOf_2 : decode cX11_ouncesOf 2 = .ok (.aload_n 0, 1) := by decide +kernel
theorem dX11_ouncesOf_3 : decode cX11_ouncesOf 3 = .ok (.getfield 76, 3) := by decide +kernel
theorem dX11_ouncesOf_6 : decode cX11_ouncesOf 6 = .ok (.bipush 12, 2) := by decide +kernel
theorem dX11_ouncesOf_8 : decode cX11_ouncesOf 8 = .ok (.aload_n 0, 1) := by decide +kernel
theorem dX11_ouncesOf_9 : decode cX11_ouncesOf 9 = .ok (.getfield 48, 3) := by decide +kernel
theorem dX11_ouncesOf_12 : decode cX11_ouncesOf 12 = .ok (.imul, 1) := by decide +kernel
theorem dX11_ouncesOf_13 : decode cX11_ouncesOf 13 = .ok (.iload_n 1, 1) := by decide +kernel
theorem dX11_ouncesOf_14 : decode cX11_ouncesOf 14 = .ok (.iadd, 1) := by decide +kernel
theorem dX11_ouncesOf_15 : decode cX11_ouncesOf 15 = .ok (.laload, 1) := by decide +kernel
theorem dX11_ouncesOf_16 : decode cX11_ouncesOf 16 = .ok (.lstore_n 3, 1) := by decide +kernel
theorem dX11_ouncesOf_17 : decode cX11_ouncesOf 17 = .ok (.lload_n 3, 1) := by decide +kernel
theorem dX11_ouncesOf_18 : decode cX11_ouncesOf 18 = .ok (.lconst 0, 1) := by decide +kernel
theorem dX11_ouncesOf_19 : decode cX11_ouncesOf 19 = .ok (.lcmp, 1) := by decide +kernel
theorem dX11_ouncesOf_20 : decode cX11_ouncesOf 20 = .ok (.ifCond .eq 27, 3) := by decide +kernel
theorem dX11_ouncesOf_23 : decode cX11_ouncesOf 23 = .ok (.iload_n 2, 1) := by decide +kernel
theorem dX11_ouncesOf_24 : decode cX11_ouncesOf 24 = .ok (.aload_n 0, 1) := by decide +kernel
theorem dX11_ouncesOf_25 : decode cX11_ouncesOf 25 = .ok (.lload_n 3, 1) := by decide +kernel
theorem dX11_ouncesOf_26 : decode cX11_ouncesOf 26 = .ok (.ldc2_w 351, 3) := by decide +kernel
theorem dX11_ouncesOf_29 : decode cX11_ouncesOf 29 = .ok (.land, 1) := by decide +kernel
theorem dX11_ouncesOf_30 : decode cX11_ouncesOf 30 = .ok (.l2i, 1) := by decide +kernel
theorem dX11_ouncesOf_31 : decode cX11_ouncesOf 31 = .ok (.bipush 97, 2) := by decide +kernel
theorem dX11_ouncesOf_33 : decode cX11_ouncesOf 33 = .ok (.isub, 1) := by decide +kernel
theorem dX11_ouncesOf_34 : decode cX11_ouncesOf 34 = .ok (.invokevirtual 433, 3) := by decide +kernel
theorem dX11_ouncesOf_37 : decode cX11_ouncesOf 37 = .ok (.iadd, 1) := by decide +kernel
theorem dX11_ouncesOf_38 : decode cX11_ouncesOf 38 = .ok (.istore_n 2, 1) := by decide +kernel
theorem dX11_ouncesOf_39 : decode cX11_ouncesOf 39 = .ok (.lload_n 3, 1) := by decide +kernel
theorem dX11_ouncesOf_40 : decode cX11_ouncesOf 40 = .ok (.bipush 8, 2) := by decide +kernel
theorem dX11_ouncesOf_42 : decode cX11_ouncesOf 42 = .ok (.lushr, 1) := by decide +kernel
theorem dX11_ouncesOf_43 : decode cX11_ouncesOf 43 = .ok (.lstore_n 3, 1) := by decide +kernel
theorem dX11_ouncesOf_44 : decode cX11_ouncesOf 44 = .ok (.goto (-27), 3) := by decide +kernel
theorem dX11_ouncesOf_47 : decode cX11_ouncesOf 47 = .ok (.iload_n 2, 1) := by decide +kernel
theorem dX11_ouncesOf_48 : decode cX11_ouncesOf 48 = .ok (.ireturn, 1) := by decide +kernel
theorem dX11_honourOf_0 : decode cX11_honourOf 0 = .ok (.aload_n 0, 1) := by decide +kernel
theorem dX11_honourOf_1 : decode cX11_honourOf 1 = .ok (.getfield 79, 3) := by decide +kernel
theorem dX11_honourOf_4 : decode cX11_honourOf 4 = .ok (.bipush 12, 2) := by decide +kernel
theorem dX11_honourOf_6 : decode cX11_honourOf 6 = .ok (.aload_n 0, 1) := by decide +kernel
theorem dX11_honourOf_7 : decode cX11_honourOf 7 = .ok (.getfield 48, 3) := by decide +kernel
theorem dX11_honourOf_10 : decode cX11_honourOf 10 = .ok (.imul, 1) := by decide +kernel
theorem dX11_honourOf_11 : decode cX11_honourOf 11 = .ok (.iload_n 1, 1) := by decide +kernel
theorem dX11_honourOf_12 : decode cX11_honourOf 12 = .ok (.iadd, 1) := by decide +kernel
theorem dX11_honourOf_13 : decode cX11_honourOf 13 = .ok (.iaload, 1) := by decide +kernel
theorem dX11_honourOf_14 : decode cX11_honourOf 14 = .ok (.ireturn, 1) := by decide +kernel
theorem dX11_looseOunces_0 : decode cX11_looseOunces 0 = .ok (.iconst 0, 1) := by decide +kernel
theorem dX11_looseOunces_1 : decode cX11_looseOunces 1 = .ok (.istore_n 2, 1) := by decide +kernel
theorem dX11_looseOunces_2 : decode cX11_looseOunces 2 = .ok (.iconst 0, 1) := by decide +kernel
theorem dX11_looseOunces_3 : decode cX11_looseOunces 3 = .ok (.istore_n 3, 1) := by decide +kernel
theorem dX11_looseOunces_4 : decode cX11_looseOunces 4 = .ok (.iload_n 3, 1) := by decide +kernel
theorem dX11_looseOunces_5 : decode cX11_looseOunces 5 = .ok (.bipush 26, 2) := by decide +kernel
theorem dX11_looseOunces_7 : decode cX11_looseOunces 7 = .ok (.if_icmp .ge 29, 3) := by decide +kernel
theorem dX11_looseOunces_10 : decode cX11_looseOunces 10 = .ok (.iload_n 2, 1) := by decide +kernel
theorem dX11_looseOunces_11 : decode cX11_looseOunces 11 = .ok (.aload_n 0, 1) := by decide +kernel
theorem dX11_looseOunces_12 : decode cX11_looseOunces 12 = .ok (.getfield 177, 3) := by decide +kernel
theorem dX11_looseOunces_15 : decode cX11_looseOunces 15 = .ok (.bipush 26, 2) := by decide +kernel
theorem dX11_looseOunces_17 : decode cX11_looseOunces 17 = .ok (.iload_n 1, 1) := by decide +kernel
theorem dX11_looseOunces_18 : decode cX11_looseOunces 18 = .ok (.imul, 1) := by decide +kernel
theorem dX11_looseOunces_19 : decode cX11_looseOunces 19 = .ok (.iload_n 3, 1) := by decide +kernel
theorem dX11_looseOunces_20 : decode cX11_looseOunces 20 = .ok (.iadd, 1) := by decide +kernel
theorem dX11_looseOunces_21 : decode cX11_looseOunces 21 = .ok (.iaload, 1) := by decide +kernel
theorem dX11_looseOunces_22 : decode cX11_looseOunces 22 = .ok (.aload_n 0, 1) := by decide +kernel
theorem dX11_looseOunces_23 : decode cX11_looseOunces 23 = .ok (.iload_n 3, 1) := by decide +kernel
theorem dX11_looseOunces_24 : decode cX11_looseOunces 24 = .ok (.invokevirtual 433, 3) := by decide +kernel
theorem dX11_looseOunces_27 : decode cX11_looseOunces 27 = .ok (.imul, 1) := by decide +kernel
theorem dX11_looseOunces_28 : decode cX11_looseOunces 28 = .ok (.iadd, 1) := by decide +kernel
theorem dX11_looseOunces_29 : decode cX11_looseOunces 29 = .ok (.istore_n 2, 1) := by decide +kernel
theorem dX11_looseOunces_30 : decode cX11_looseOunces 30 = .ok (.iinc 3 1, 3) := by decide +kernel
theorem dX11_looseOunces_33 : decode cX11_looseOunces 33 = .ok (.goto (-29), 3) := by decide +kernel
theorem dX11_looseOunces_36 : decode cX11_looseOunces 36 = .ok (.iload_n 2, 1) := by decide +kernel
theorem dX11_looseOunces_37 : decode cX11_looseOunces 37 = .ok (.ireturn, 1) := by decide +kernel
theorem dX11_sumOf_0 : decode cX11_sumOf 0 = .ok (.iconst 0, 1) := by decide +kernel
theorem dX11_sumOf_1 : decode cX11_sumOf 1 = .ok (.istore_n 3, 1) := by decide +kernel
theorem dX11_sumOf_2 : decode cX11_sumOf 2 = .ok (.iconst 0, 1) := by decide +kernel
theorem dX11_sumOf_3 : decode cX11_sumOf 3 = .ok (.istore 4, 2) := by decide +kernel
theorem dX11_sumOf_5 : decode cX11_sumOf 5 = .ok (.iload 4, 2) := by decide +kernel
theorem dX11_sumOf_7 : decode cX11_sumOf 7 = .ok (.aload_n 0, 1) := by decide +kernel
theorem dX11_sumOf_8 : decode cX11_sumOf 8 = .ok (.getfield 73, 3) := by decide +kernel
theorem dX11_sumOf_11 : decode cX11_sumOf 11 = .ok (.aload_n 0, 1) := by decide +kernel
theorem dX11_sumOf_12 : decode cX11_sumOf 12 = .ok (.getfield 48, 3) := by decide +kernel
theorem dX11_sumOf_15 : decode cX11_sumOf 15 = .ok (.iaload, 1) := by decide +kernel
theorem dX11_sumOf_16 : decode cX11_sumOf 16 = .ok (.if_icmp .ge 44, 3) := by decide +kernel
theorem dX11_sumOf_19 : decode cX11_sumOf 19 = .ok (.iload_n 3, 1) := by decide +kernel
theorem dX11_sumOf_20 : decode cX11_sumOf 20 = .ok (.iload_n 1, 1) := by decide +kernel
theorem dX11_sumOf_21 : decode cX11_sumOf 21 = .ok (.iload 4, 2) := by decide +kernel
theorem dX11_sumOf_23 : decode cX11_sumOf 23 = .ok (.ishr, 1) := by decide +kernel
theorem dX11_sumOf_24 : decode cX11_sumOf 24 = .ok (.iconst 1, 1) := by decide +kernel
theorem dX11_sumOf_25 : decode cX11_sumOf 25 = .ok (.iand, 1) := by decide +kernel
theorem dX11_sumOf_26 : decode cX11_sumOf 26 = .ok (.ifCond .ne 7, 3) := by decide +kernel
theorem dX11_sumOf_29 : decode cX11_sumOf 29 = .ok (.iconst 0, 1) := by decide +kernel
theorem dX11_sumOf_30 : decode cX11_sumOf 30 = .ok (.goto 22, 3) := by decide +kernel
theorem dX11_sumOf_33 : decode cX11_sumOf 33 = .ok (.iload_n 2, 1) := by decide +kernel
theorem dX11_sumOf_34 : decode cX11_sumOf 34 = .ok (.ifCond .eq 12, 3) := by decide +kernel
theorem dX11_sumOf_37 : decode cX11_sumOf 37 = .ok (.aload_n 0, 1) := by decide +kernel
theorem dX11_sumOf_38 : decode cX11_sumOf 38 = .ok (.iload 4, 2) := by decide +kernel
theorem dX11_sumOf_40 : decode cX11_sumOf 40 = .ok (.invokevirtual 436, 3) := by decide +kernel
theorem dX11_sumOf_43 : decode cX11_sumOf 43 = .ok (.goto 9, 3) := by decide +kernel
theorem dX11_sumOf_46 : decode cX11_sumOf 46 = .ok (.aload_n 0, 1) := by decide +kernel
theorem dX11_sumOf_47 : decode cX11_sumOf 47 = .ok (.iload 4, 2) := by decide +kernel
theorem dX11_sumOf_49 : decode cX11_sumOf 49 = .ok (.invokevirtual 439, 3) := by decide +kernel
theorem dX11_sumOf_52 : decode cX11_sumOf 52 = .ok (.iadd, 1) := by decide +kernel
theorem dX11_sumOf_53 : decode cX11_sumOf 53 = .ok (.istore_n 3, 1) := by decide +kernel
theorem dX11_sumOf_54 : decode cX11_sumOf 54 = .ok (.iinc 4 1, 3) := by decide +kernel
theorem dX11_sumOf_57 : decode cX11_sumOf 57 = .ok (.goto (-52), 3) := by decide +kernel
theorem dX11_sumOf_60 : decode cX11_sumOf 60 = .ok (.iload_n 3, 1) := by decide +kernel
theorem dX11_sumOf_61 : decode cX11_sumOf 61 = .ok (.ireturn, 1) := by decide +kernel
theorem dX11_loadOf_0 : decode cX11_loadOf 0 = .ok (.aload_n 0, 1) := by decide +kernel
theorem dX11_loadOf_1 : decode cX11_loadOf 1 = .ok (.aload_n 0, 1) := by decide +kernel
theorem dX11_loadOf_2 : decode cX11_loadOf 2 = .ok (.getfield 174, 3) := by decide +kernel
theorem dX11_loadOf_5 : decode cX11_loadOf 5 = .ok (.iload_n 1, 1) := by decide +kernel
theorem dX11_loadOf_6 : decode cX11_loadOf 6 = .ok (.iaload, 1) := by decide +kernel
theorem dX11_loadOf_7 : decode cX11_loadOf 7 = .ok (.iconst 0, 1) := by decide +kernel
theorem dX11_loadOf_8 : decode cX11_loadOf 8 = .ok (.invokevirtual 442, 3) := by decide +kernel
theorem dX11_loadOf_11 : decode cX11_loadOf 11 = .ok (.aload_n 0, 1) := by decide +kernel
theorem dX11_loadOf_12 : decode cX11_loadOf 12 = .ok (.iload_n 1, 1) := by decide +kernel
theorem dX11_loadOf_13 : decode cX11_loadOf 13 = .ok (.invokevirtual 446, 3) := by decide +kernel
theorem dX11_loadOf_16 : decode cX11_loadOf 16 = .ok (.iadd, 1) := by decide +kernel
theorem dX11_loadOf_17 : decode cX11_loadOf 17 = .ok (.ireturn, 1) := by decide +kernel
theorem dX11_bitsOf_0 : decode cX11_bitsOf 0 = .ok (.iconst 0, 1) := by decide +kernel
theorem dX11_bitsOf_1 : decode cX11_bitsOf 1 = .ok (.istore_n 1, 1) := by decide +kernel
theorem dX11_bitsOf_2 : decode cX11_bitsOf 2 = .ok (.iload_n 0, 1) := by decide +kernel
theorem dX11_bitsOf_3 : decode cX11_bitsOf 3 = .ok (.istore_n 2, 1) := by decide +kernel
theorem dX11_bitsOf_4 : decode cX11_bitsOf 4 = .ok (.iload_n 2, 1) := by decide +kernel
theorem dX11_bitsOf_5 : decode cX11_bitsOf 5 = .ok (.ifCond .eq 16, 3) := by decide +kernel
theorem dX11_bitsOf_8 : decode cX11_bitsOf 8 = .ok (.iload_n 1, 1) := by decide +kernel
theorem dX11_bitsOf_9 : decode cX11_bitsOf 9 = .ok (.iload_n 2, 1) := by decide +kernel
theorem dX11_bitsOf_10 : decode cX11_bitsOf 10 = .ok (.iconst 1, 1) := by decide +kernel
theorem dX11_bitsOf_11 : decode cX11_bitsOf 11 = .ok (.iand, 1) := by decide +kernel
theorem dX11_bitsOf_12 : decode cX11_bitsOf 12 = .ok (.iadd, 1) := by decide +kernel
theorem dX11_bitsOf_13 : decode cX11_bitsOf 13 = .ok (.istore_n 1, 1) := by decide +kernel
theorem dX11_bitsOf_14 : decode cX11_bitsOf 14 = .ok (.iload_n 2, 1) := by decide +kernel
theorem dX11_bitsOf_15 : decode cX11_bitsOf 15 = .ok (.iconst 1, 1) := by decide +kernel
theorem dX11_bitsOf_16 : decode cX11_bitsOf 16 = .ok (.iushr, 1) := by decide +kernel
theorem dX11_bitsOf_17 : decode cX11_bitsOf 17 = .ok (.istore_n 2, 1) := by decide +kernel
theorem dX11_bitsOf_18 : decode cX11_bitsOf 18 = .ok (.goto (-14), 3) := by decide +kernel
theorem dX11_bitsOf_21 : decode cX11_bitsOf 21 = .ok (.iload_n 1, 1) := by decide +kernel
theorem dX11_bitsOf_22 : decode cX11_bitsOf 22 = .ok (.ireturn, 1) := by decide +kernel
theorem dX11_ageOf_0 : decode cX11_ageOf 0 = .ok (.aload_n 0, 1) := by decide +kernel
theorem dX11_ageOf_1 : decode cX11_ageOf 1 = .ok (.getfield 171, 3) := by decide +kernel
theorem dX11_ageOf_4 : decode cX11_ageOf 4 = .ok (.aload_n 0, 1) := by decide +kernel
theorem dX11_ageOf_5 : decode cX11_ageOf 5 = .ok (.getfield 61, 3) := by decide +kernel
theorem dX11_ageOf_8 : decode cX11_ageOf 8 = .ok (.bipush 8, 2) := by decide +kernel
theorem dX11_ageOf_10 : decode cX11_ageOf 10 = .ok (.aload_n 0, 1) := by decide +kernel
theorem dX11_ageOf_11 : decode cX11_ageOf 11 = .ok (.getfield 48, 3) := by decide +kernel
theorem dX11_ageOf_14 : decode cX11_ageOf 14 = .ok (.imul, 1) := by decide +kernel
theorem dX11_ageOf_15 : decode cX11_ageOf 15 = .ok (.iload_n 1, 1) := by decide +kernel
theorem dX11_ageOf_16 : decode cX11_ageOf 16 = .ok (.iadd, 1) := by decide +kernel
theorem dX11_ageOf_17 : decode cX11_ageOf 17 = .ok (.iaload, 1) := by decide +kernel
theorem dX11_ageOf_18 : decode cX11_ageOf 18 = .ok (.isub, 1) := by decide +kernel
theorem dX11_ageOf_19 : decode cX11_ageOf 19 = .ok (.istore_n 2, 1) := by decide +kernel
theorem dX11_ageOf_20 : decode cX11_ageOf 20 = .ok (.iload_n 2, 1) := by decide +kernel
theorem dX11_ageOf_21 : decode cX11_ageOf 21 = .ok (.ifCond .ge 7, 3) := by decide +kernel
theorem dX11_ageOf_24 : decode cX11_ageOf 24 = .ok (.iconst 0, 1) := by decide +kernel
theorem dX11_ageOf_25 : decode cX11_ageOf 25 = .ok (.goto 4, 3) := by decide +kernel
theorem dX11_ageOf_28 : decode cX11_ageOf 28 = .ok (.iload_n 2, 1) := by decide +kernel
theorem dX11_ageOf_29 : decode cX11_ageOf 29 = .ok (.ireturn, 1) := by decide +kernel
theorem dX11_limitOf_0 : decode cX11_limitOf 0 = .ok (.bipush 8, 2) := by decide +kernel
theorem dX11_limitOf_2 : decode cX11_limitOf 2 = .ok (.aload_n 0, 1) := by decide +kernel
theorem dX11_limitOf_3 : decode cX11_limitOf 3 = .ok (.getfield 48, 3) := by decide +kernel
theorem dX11_limitOf_6 : decode cX11_limitOf 6 = .ok (.imul, 1) := by decide +kernel
theorem dX11_limitOf_7 : decode cX11_limitOf 7 = .ok (.iload_n 1, 1) := by decide +kernel
theorem dX11_limitOf_8 : decode cX11_limitOf 8 = .ok (.iadd, 1) := by decide +kernel
theorem dX11_limitOf_9 : decode cX11_limitOf 9 = .ok (.istore_n 2, 1) := by decide +kernel
theorem dX11_limitOf_10 : decode cX11_limitOf 10 = .ok (.bipush 100, 2) := by decide +kernel
theorem dX11_limitOf_12 : decode cX11_limitOf 12 = .ok (.istore_n 3, 1) := by decide +kernel
theorem dX11_limitOf_13 : decode cX11_limitOf 13 = .ok (.bipush 6, 2) := by decide +kernel
theorem dX11_limitOf_15 : decode cX11_limitOf 15 = .ok (.aload_n 0, 1) := by decide +kernel
theorem dX11_limitOf_16 : decode cX11_limitOf 16 = .ok (.getfield 48, 3) := by decide +kernel
theorem dX11_limitOf_19 : decode cX11_limitOf 19 = .ok (.imul, 1) := by decide +kernel
theorem dX11_limitOf_20 : decode cX11_limitOf 20 = .ok (.istore 4, 2) := by decide +kernel
theorem dX11_limitOf_22 : decode cX11_limitOf 22 = .ok (.iload 4, 2) := by decide +kernel
theorem dX11_limitOf_24 : decode cX11_limitOf 24 = .ok (.bipush 6, 2) := by decide +kernel
theorem dX11_limitOf_26 : decode cX11_limitOf 26 = .ok (.aload_n 0, 1) := by decide +kernel
theorem dX11_limitOf_27 : decode cX11_limitOf 27 = .ok (.getfield 48, 3) := by decide +kernel
theorem dX11_limitOf_30 : decode cX11_limitOf 30 = .ok (.imul, 1) := by decide +kernel
theorem dX11_limitOf_31 : decode cX11_limitOf 31 = .ok (.aload_n 0, 1) := by decide +kernel
theorem dX11_limitOf_32 : decode cX11_limitOf 32 = .ok (.getfield 85, 3) := by decide +kernel
theorem dX11_limitOf_35 : decode cX11_limitOf 35 = .ok (.aload_n 0, 1) := by decide +kernel
theorem dX11_limitOf_36 : decode cX11_limitOf 36 = .ok (.getfield 48, 3) := by decide +kernel
theorem dX11_limitOf_39 : decode cX11_limitOf 39 = .ok (.iaload, 1) := by decide +kernel
theorem dX11_limitOf_40 : decode cX11_limitOf 40 = .ok (.iadd, 1) := by decide +kernel
theorem dX11_limitOf_41 : decode cX11_limitOf 41 = .ok (.if_icmp .ge 36, 3) := by decide +kernel
theorem dX11_limitOf_44 : decode cX11_limitOf 44 = .ok (.aload_n 0, 1) := by decide +kernel
theorem dX11_limitOf_45 : decode cX11_limitOf 45 = .ok (.getfield 88, 3) := by decide +kernel
theorem dX11_limitOf_48 : decode cX11_limitOf 48 = .ok (.iload 4, 2) := by decide +kernel
theorem dX11_limitOf_50 : decode cX11_limitOf 50 = .ok (.iaload, 1) := by decide +kernel
theorem dX11_limitOf_51 : decode cX11_limitOf 51 = .ok (.aload_n 0, 1) := by decide +kernel
theorem dX11_limitOf_52 : decode cX11_limitOf 52 = .ok (.iload_n 1, 1) := by decide +kernel
theorem dX11_limitOf_53 : decode cX11_limitOf 53 = .ok (.invokevirtual 449, 3) := by decide +kernel
theorem dX11_limitOf_56 : decode cX11_limitOf 56 = .ok (.if_icmp .gt 13, 3) := by decide +kernel
theorem dX11_limitOf_59 : decode cX11_limitOf 59 = .ok (.aload_n 0, 1) := by decide +kernel
theorem dX11_limitOf_60 : decode cX11_limitOf 60 = .ok (.getfield 91, 3) := by decide +kernel
theorem dX11_limitOf_63 : decode cX11_limitOf 63 = .ok (.iload 4, 2) := by decide +kernel
theorem dX11_limitOf_65 : decode cX11_limitOf 65 = .ok (.iaload, 1) := by decide +kernel
theorem dX11_limitOf_66 : decode cX11_limitOf 66 = .ok (.goto 4, 3) := by decide +kernel
theorem dX11_limitOf_69 : decode cX11_limitOf 69 = .ok (.iload_n 3, 1) := by decide +kernel
theorem dX11_limitOf_70 : decode cX11_limitOf 70 = .ok (.istore_n 3, 1) := by decide +kernel
theorem dX11_limitOf_71 : decode cX11_limitOf 71 = .ok (.iinc 4 1, 3) := by decide +kernel
theorem dX11_limitOf_74 : decode cX11_limitOf 74 = .ok (.goto (-52), 3) := by decide +kernel
theorem dX11_limitOf_77 : decode cX11_limitOf 77 = .ok (.aload_n 0, 1) := by decide +kernel
theorem dX11_limitOf_78 : decode cX11_limitOf 78 = .ok (.getfield 168, 3) := by decide +kernel
theorem dX11_limitOf_81 : decode cX11_limitOf 81 = .ok (.iconst 1, 1) := by decide +kernel
theorem dX11_limitOf_82 : decode cX11_limitOf 82 = .ok (.iload_n 1, 1) := by decide +kernel
theorem dX11_limitOf_83 : decode cX11_limitOf 83 = .ok (.iastore, 1) := by decide +kernel
theorem dX11_limitOf_84 : decode cX11_limitOf 84 = .ok (.aload_n 0, 1) := by decide +kernel
theorem dX11_limitOf_85 : decode cX11_limitOf 85 = .ok (.getfield 168, 3) := by decide +kernel
theorem dX11_limitOf_88 : decode cX11_limitOf 88 = .ok (.iconst 2, 1) := by decide +kernel
theorem dX11_limitOf_89 : decode cX11_limitOf 89 = .ok (.aload_n 0, 1) := by decide +kernel
theorem dX11_limitOf_90 : decode cX11_limitOf 90 = .ok (.iload_n 1, 1) := by decide +kernel
theorem dX11_limitOf_91 : decode cX11_limitOf 91 = .ok (.invokevirtual 449, 3) := by decide +kernel
theorem dX11_limitOf_94 : decode cX11_limitOf 94 = .ok (.iastore, 1) := by decide +kernel
theorem dX11_limitOf_95 : decode cX11_limitOf 95 = .ok (.aload_n 0, 1) := by decide +kernel
theorem dX11_limitOf_96 : decode cX11_limitOf 96 = .ok (.getfield 168, 3) := by decide +kernel
theorem dX11_limitOf_99 : decode cX11_limitOf 99 = .ok (.iconst 3, 1) := by decide +kernel
theorem dX11_limitOf_100 : decode cX11_limitOf 100 = .ok (.aload_n 0, 1) := by decide +kernel
theorem dX11_limitOf_101 : decode cX11_limitOf 101 = .ok (.getfield 64, 3) := by decide +kernel
theorem dX11_limitOf_104 : decode cX11_limitOf 104 = .ok (.iload_n 2, 1) := by decide +kernel
theorem dX11_limitOf_105 : decode cX11_limitOf 105 = .ok (.iaload, 1) := by decide +kernel
theorem dX11_limitOf_106 : decode cX11_limitOf 106 = .ok (.iastore, 1) := by decide +kernel
theorem dX11_limitOf_107 : decode cX11_limitOf 107 = .ok (.aload_n 0, 1) := by decide +kernel
theorem dX11_limitOf_108 : decode cX11_limitOf 108 = .ok (.getfield 168, 3) := by decide +kernel
theorem dX11_limitOf_111 : decode cX11_limitOf 111 = .ok (.iconst 4, 1) := by decide +kernel
theorem dX11_limitOf_112 : decode cX11_limitOf 112 = .ok (.aload_n 0, 1) := by decide +kernel
theorem dX11_limitOf_113 : decode cX11_limitOf 113 = .ok (.aload_n 0, 1) := by decide +kernel
theorem dX11_limitOf_114 : decode cX11_limitOf 114 = .ok (.getfield 174, 3) := by decide +kernel
theorem dX11_limitOf_117 : decode cX11_limitOf 117 = .ok (.iload_n 1, 1) := by decide +kernel
theorem dX11_limitOf_118 : decode cX11_limitOf 118 = .ok (.iaload, 1) := by decide +kernel
theorem dX11_limitOf_119 : decode cX11_limitOf 119 = .ok (.iconst 1, 1) := by decide +kernel
theorem dX11_limitOf_120 : decode cX11_limitOf 120 = .ok (.invokevirtual 442, 3) := by decide +kernel
theorem dX11_limitOf_123 : decode cX11_limitOf 123 = .ok (.iastore, 1) := by decide +kernel
theorem dX11_limitOf_124 : decode cX11_limitOf 124 = .ok (.aload_n 0, 1) := by decide +kernel
theorem dX11_limitOf_125 : decode cX11_limitOf 125 = .ok (.getfield 168, 3) := by decide +kernel
theorem dX11_limitOf_128 : decode cX11_limitOf 128 = .ok (.iconst 5, 1) := by decide +kernel
theorem dX11_limitOf_129 : decode cX11_limitOf 129 = .ok (.aload_n 0, 1) := by decide +kernel
theorem dX11_limitOf_130 : decode cX11_limitOf 130 = .ok (.getfield 174, 3) := by decide +kernel
theorem dX11_limitOf_133 : decode cX11_limitOf 133 = .ok (.iload_n 1, 1) := by decide +kernel
theorem dX11_limitOf_134 : decode cX11_limitOf 134 = .ok (.iaload, 1) := by decide +kernel
theorem dX11_limitOf_135 : decode cX11_limitOf 135 = .ok (.invokestatic 452, 3) := by decide +kernel
theorem dX11_limitOf_138 : decode cX11_limitOf 138 = .ok (.iastore, 1) := by decide +kernel
theorem dX11_limitOf_139 : decode cX11_limitOf 139 = .ok (.aload_n 0, 1) := by decide +kernel
theorem dX11_limitOf_140 : decode cX11_limitOf 140 = .ok (.getfield 64, 3) := by decide +kernel
theorem dX11_limitOf_143 : decode cX11_limitOf 143 = .ok (.iload_n 2, 1) := by decide +kernel
theorem dX11_limitOf_144 : decode cX11_limitOf 144 = .ok (.iaload, 1) := by decide +kernel
theorem dX11_limitOf_145 : decode cX11_limitOf 145 = .ok (.iload_n 3, 1) := by decide +kernel
theorem dX11_limitOf_146 : decode cX11_limitOf 146 = .ok (.imul, 1) := by decide +kernel
theorem dX11_limitOf_147 : decode cX11_limitOf 147 = .ok (.bipush 100, 2) := by decide +kernel
theorem dX11_limitOf_149 : decode cX11_limitOf 149 = .ok (.idiv, 1) := by decide +kernel
theorem dX11_limitOf_150 : decode cX11_limitOf 150 = .ok (.i2l, 1) := by decide +kernel
theorem dX11_limitOf_151 : decode cX11_limitOf 151 = .ok (.lstore 4, 2) := by decide +kernel
theorem dX11_limitOf_153 : decode cX11_limitOf 153 = .ok (.bipush 8, 2) := by decide +kernel
theorem dX11_limitOf_155 : decode cX11_limitOf 155 = .ok (.aload_n 0, 1) := by decide +kernel
theorem dX11_limitOf_156 : decode cX11_limitOf 156 = .ok (.getfield 48, 3) := by decide +kernel
theorem dX11_limitOf_159 : decode cX11_limitOf 159 = .ok (.imul, 1) := by decide +kernel
theorem dX11_limitOf_160 : decode cX11_limitOf 160 = .ok (.istore 6, 2) := by decide +kernel
theorem dX11_limitOf_162 : decode cX11_limitOf 162 = .ok (.iload 6, 2) := by decide +kernel
theorem dX11_limitOf_164 : decode cX11_limitOf 164 = .ok (.bipush 8, 2) := by decide +kernel
theorem dX11_limitOf_166 : decode cX11_limitOf 166 = .ok (.aload_n 0, 1) := by decide +kernel
theorem dX11_limitOf_167 : decode cX11_limitOf 167 = .ok (.getfield 48, 3) := by decide +kernel
theorem dX11_limitOf_170 : decode cX11_limitOf 170 = .ok (.imul, 1) := by decide +kernel
theorem dX11_limitOf_171 : decode cX11_limitOf 171 = .ok (.aload_n 0, 1) := by decide +kernel
theorem dX11_limitOf_172 : decode cX11_limitOf 172 = .ok (.getfield 94, 3) := by decide +kernel
theorem dX11_limitOf_175 : decode cX11_limitOf 175 = .ok (.aload_n 0, 1) := by decide +kernel
theorem dX11_limitOf_176 : decode cX11_limitOf 176 = .ok (.getfield 48, 3) := by decide +kernel
theorem dX11_limitOf_179 : decode cX11_limitOf 179 = .ok (.iaload, 1) := by decide +kernel
theorem dX11_limitOf_180 : decode cX11_limitOf 180 = .ok (.iadd, 1) := by decide +kernel
theorem dX11_limitOf_181 : decode cX11_limitOf 181 = .ok (.if_icmp .ge 61, 3) := by decide +kernel
theorem dX11_limitOf_184 : decode cX11_limitOf 184 = .ok (.aload_n 0, 1) := by decide +kernel
theorem dX11_limitOf_185 : decode cX11_limitOf 185 = .ok (.aload_n 0, 1) := by decide +kernel
theorem dX11_limitOf_186 : decode cX11_limitOf 186 = .ok (.getfield 100, 3) := by decide +kernel
theorem dX11_limitOf_189 : decode cX11_limitOf 189 = .ok (.iload 6, 2) := by decide +kernel
theorem dX11_limitOf_191 : decode cX11_limitOf 191 = .ok (.iaload, 1) := by decide +kernel
theorem dX11_limitOf_192 : decode cX11_limitOf 192 = .ok (.aload_n 0, 1) := by decide +kernel
theorem dX11_limitOf_193 : decode cX11_limitOf 193 = .ok (.getfield 103, 3) := by decide +kernel
theorem dX11_limitOf_196 : decode cX11_limitOf 196 = .ok (.iload 6, 2) := by decide +kernel
theorem dX11_limitOf_198 : decode cX11_limitOf 198 = .ok (.iaload, 1) := by decide +kernel
theorem dX11_limitOf_199 : decode cX11_limitOf 199 = .ok (.invokevirtual 455, 3) := by decide +kernel
theorem dX11_limitOf_202 : decode cX11_limitOf 202 = .ok (.lconst 1, 1) := by decide +kernel
theorem dX11_limitOf_203 : decode cX11_limitOf 203 = .ok (.lcmp, 1) := by decide +kernel
theorem dX11_limitOf_204 : decode cX11_limitOf 204 = .ok (.ifCond .eq 6, 3) := by decide +kernel
theorem dX11_limitOf_207 : decode cX11_limitOf 207 = .ok (.goto 29, 3) := by decide +kernel
theorem dX11_limitOf_210 : decode cX11_limitOf 210 = .ok (.lload 4, 2) := by decide +kernel
theorem dX11_limitOf_212 : decode cX11_limitOf 212 = .ok (.aload_n 0, 1) := by decide +kernel
theorem dX11_limitOf_213 : decode cX11_limitOf 213 = .ok (.aload_n 0, 1) := by decide +kernel
theorem dX11_limitOf_214 : decode cX11_limitOf 214 = .ok (.getfield 97, 3) := by decide +kernel
theorem dX11_limitOf_217 : decode cX11_limitOf 217 = .ok (.iload 6, 2) := by decide +kernel
theorem dX11_limitOf_219 : decode cX11_limitOf 219 = .ok (.iaload, 1) := by decide +kernel
theorem dX11_limitOf_220 : decode cX11_limitOf 220 = .ok (.aload_n 0, 1) := by decide +kernel
theorem dX11_limitOf_221 : decode cX11_limitOf 221 = .ok (.getfield 100, 3) := by decide +kernel
theorem dX11_limitOf_224 : decode cX11_limitOf 224 = .ok (.iload 6, 2) := by decide +kernel
theorem dX11_limitOf_226 : decode cX11_limitOf 226 = .ok (.iaload, 1) := by decide +kernel
theorem dX11_limitOf_227 : decode cX11_limitOf 227 = .ok (.invokevirtual 455, 3) := by decide +kernel
theorem dX11_limitOf_230 : decode cX11_limitOf 230 = .ok (.ladd, 1) := by decide +kernel
theorem dX11_limitOf_231 : decode cX11_limitOf 231 = .ok (.lstore 4, 2) := by decide +kernel
theorem dX11_limitOf_233 : decode cX11_limitOf 233 = .ok (.goto 9, 3) := by decide +kernel
theorem dX11_limitOf_236 : decode cX11_limitOf 236 = .ok (.iinc 6 1, 3) := by decide +kernel
theorem dX11_limitOf_239 : decode cX11_limitOf 239 = .ok (.goto (-77), 3) := by decide +kernel
theorem dX11_limitOf_242 : decode cX11_limitOf 242 = .ok (.lload 4, 2) := by decide +kernel
theorem dX11_limitOf_244 : decode cX11_limitOf 244 = .ok (.lconst 0, 1) := by decide +kernel
theorem dX11_limitOf_245 : decode cX11_limitOf 245 = .ok (.lcmp, 1) := by decide +kernel
theorem dX11_limitOf_246 : decode cX11_limitOf 246 = .ok (.ifCond .ge 7, 3) := by decide +kernel
theorem dX11_limitOf_249 : decode cX11_limitOf 249 = .ok (.iconst 0, 1) := by decide +kernel
theorem dX11_limitOf_250 : decode cX11_limitOf 250 = .ok (.goto 21, 3) := by decide +kernel
theorem dX11_limitOf_253 : decode cX11_limitOf 253 = .ok (.lload 4, 2) := by decide +kernel
theorem dX11_limitOf_255 : decode cX11_limitOf 255 = .ok (.ldc2_w 459, 3) := by decide +kernel
theorem dX11_limitOf_258 : decode cX11_limitOf 258 = .ok (.lcmp, 1) := by decide +kernel
theorem dX11_limitOf_259 : decode cX11_limitOf 259 = .ok (.ifCond .le 9, 3) := by decide +kernel
theorem dX11_limitOf_262 : decode cX11_limitOf 262 = .ok (.sipush 9999, 3) := by decide +kernel
theorem dX11_limitOf_265 : decode cX11_limitOf 265 = .ok (.goto 6, 3) := by decide +kernel
theorem dX11_limitOf_268 : decode cX11_limitOf 268 = .ok (.lload 4, 2) := by decide +kernel
theorem dX11_limitOf_270 : decode cX11_limitOf 270 = .ok (.l2i, 1) := by decide +kernel
theorem dX11_limitOf_271 : decode cX11_limitOf 271 = .ok (.ireturn, 1) := by decide +kernel
theorem dX11_bestSet_0 : decode cX11_bestSet 0 = .ok (.iconst 0, 1) := by decide +kernel
theorem dX11_bestSet_1 : decode cX11_bestSet 1 = .ok (.istore_n 3, 1) := by decide +kernel
theorem dX11_bestSet_2 : decode cX11_bestSet 2 = .ok (.iconst 0, 1) := by decide +kernel
theorem dX11_bestSet_3 : decode cX11_bestSet 3 = .ok (.istore 4, 2) := by decide +kernel
theorem dX11_bestSet_5 : decode cX11_bestSet 5 = .ok (.iconst 1, 1) := by decide +kernel
theorem dX11_bestSet_6 : decode cX11_bestSet 6 = .ok (.istore 5, 2) := by decide +kernel
theorem dX11_bestSet_8 : decode cX11_bestSet 8 = .ok (.iload 5, 2) := by decide +kernel
theorem dX11_bestSet_10 : decode cX11_bestSet 10 = .ok (.iconst 1, 1) := by decide +kernel
theorem dX11_bestSet_11 : decode cX11_bestSet 11 = .ok (.aload_n 0, 1) := by decide +kernel
theorem dX11_bestSet_12 : decode cX11_bestSet 12 = .ok (.getfield 73, 3) := by decide +kernel
theorem dX11_bestSet_15 : decode cX11_bestSet 15 = .ok (.aload_n 0, 1) := by decide +kernel
theorem dX11_bestSet_16 : decode cX11_bestSet 16 = .ok (.getfield 48, 3) := by decide +kernel
theorem dX11_bestSet_19 : decode cX11_bestSet 19 = .ok (.iaload, 1) := by decide +kernel
theorem dX11_bestSet_20 : decode cX11_bestSet 20 = .ok (.ishl, 1) := by decide +kernel
theorem dX11_bestSet_21 : decode cX11_bestSet 21 = .ok (.if_icmp .ge 77, 3) := by decide +kernel
theorem dX11_bestSet_24 : decode cX11_bestSet 24 = .ok (.iload 5, 2) := by decide +kernel
theorem dX11_bestSet_26 : decode cX11_bestSet 26 = .ok (.iload_n 1, 1) := by decide +kernel
theorem dX11_bestSet_27 : decode cX11_bestSet 27 = .ok (.iand, 1) := by decide +kernel
theorem dX11_bestSet_28 : decode cX11_bestSet 28 = .ok (.iload 5, 2) := by decide +kernel
theorem dX11_bestSet_30 : decode cX11_bestSet 30 = .ok (.if_icmp .ne 62, 3) := by decide +kernel
theorem dX11_bestSet_33 : decode cX11_bestSet 33 = .ok (.aload_n 0, 1) := by decide +kernel
theorem dX11_bestSet_34 : decode cX11_bestSet 34 = .ok (.iload 5, 2) := by decide +kernel
theorem dX11_bestSet_36 : decode cX11_bestSet 36 = .ok (.iconst 0, 1) := by decide +kernel
theorem dX11_bestSet_37 : decode cX11_bestSet 37 = .ok (.invokevirtual 442, 3) := by decide +kernel
theorem dX11_bestSet_40 : decode cX11_bestSet 40 = .ok (.iload_n 2, 1) := by decide +kernel
theorem dX11_bestSet_41 : decode cX11_bestSet 41 = .ok (.if_icmp .le 6, 3) := by decide +kernel
theorem dX11_bestSet_44 : decode cX11_bestSet 44 = .ok (.goto 48, 3) := by decide +kernel
theorem dX11_bestSet_47 : decode cX11_bestSet 47 = .ok (.aload_n 0, 1) := by decide +kernel
theorem dX11_bestSet_48 : decode cX11_bestSet 48 = .ok (.iload 5, 2) := by decide +kernel
theorem dX11_bestSet_50 : decode cX11_bestSet 50 = .ok (.iconst 1, 1) := by decide +kernel
theorem dX11_bestSet_51 : decode cX11_bestSet 51 = .ok (.invokevirtual 442, 3) := by decide +kernel
theorem dX11_bestSet_54 : decode cX11_bestSet 54 = .ok (.istore 6, 2) := by decide +kernel
theorem dX11_bestSet_56 : decode cX11_bestSet 56 = .ok (.iload 6, 2) := by decide +kernel
theorem dX11_bestSet_58 : decode cX11_bestSet 58 = .ok (.iload 4, 2) := by decide +kernel
theorem dX11_bestSet_60 : decode cX11_bestSet 60 = .ok (.if_icmp .lt 32, 3) := by decide +kernel
theorem dX11_bestSet_63 : decode cX11_bestSet 63 = .ok (.iload 6, 2) := by decide +kernel
theorem dX11_bestSet_65 : decode cX11_bestSet 65 = .ok (.iload 4, 2) := by decide +kernel
theorem dX11_bestSet_67 : decode cX11_bestSet 67 = .ok (.if_icmp .ne 18, 3) := by decide +kernel
theorem dX11_bestSet_70 : decode cX11_bestSet 70 = .ok (.iload 5, 2) := by decide +kernel
theorem dX11_bestSet_72 : decode cX11_bestSet 72 = .ok (.invokestatic 452, 3) := by decide +kernel
theorem dX11_bestSet_75 : decode cX11_bestSet 75 = .ok (.iload_n 3, 1) := by decide +kernel
theorem dX11_bestSet_76 : decode cX11_bestSet 76 = .ok (.invokestatic 452, 3) := by decide +kernel
theorem dX11_bestSet_79 : decode cX11_bestSet 79 = .ok (.if_icmp .lt 6, 3) := by decide +kernel
theorem dX11_bestSet_82 : decode cX11_bestSet 82 = .ok (.goto 10, 3) := by decide +kernel
theorem dX11_bestSet_85 : decode cX11_bestSet 85 = .ok (.iload 5, 2) := by decide +kernel
theorem dX11_bestSet_87 : decode cX11_bestSet 87 = .ok (.istore_n 3, 1) := by decide +kernel
theorem dX11_bestSet_88 : decode cX11_bestSet 88 = .ok (.iload 6, 2) := by decide +kernel
theorem dX11_bestSet_90 : decode cX11_bestSet 90 = .ok (.istore 4, 2) := by decide +kernel
theorem dX11_bestSet_92 : decode cX11_bestSet 92 = .ok (.iinc 5 1, 3) := by decide +kernel
theorem dX11_bestSet_95 : decode cX11_bestSet 95 = .ok (.goto (-87), 3) := by decide +kernel
theorem dX11_bestSet_98 : decode cX11_bestSet 98 = .ok (.iload_n 3, 1) := by decide +kernel
theorem dX11_bestSet_99 : decode cX11_bestSet 99 = .ok (.ireturn, 1) := by decide +kernel
theorem dX11_has_0 : decode cX11_has 0 = .ok (.iload_n 1, 1) := by decide +kernel
theorem dX11_has_1 : decode cX11_has 1 = .ok (.tableswitch 121 0 8 #[51, 61, 71, 81, 91, 101, 106, 111, 116], 51) := by decide +kernel
theorem dX11_has_52 : decode cX11_has 52 = .ok (.aload_n 0, 1) := by decide +kernel
theorem dX11_has_53 : decode cX11_has 53 = .ok (.getfield 54, 3) := by decide +kernel
theorem dX11_has_56 : decode cX11_has 56 = .ok (.aload_n 0, 1) := by decide +kernel
theorem dX11_has_57 : decode cX11_has 57 = .ok (.getfield 48, 3) := by decide +kernel
theorem dX11_has_60 : decode cX11_has 60 = .ok (.iaload, 1) := by decide +kernel
theorem dX11_has_61 : decode cX11_has 61 = .ok (.ireturn, 1) := by decide +kernel
theorem dX11_has_62 : decode cX11_has 62 = .ok (.aload_n 0, 1) := by decide +kernel
theorem dX11_has_63 : decode cX11_has 63 = .ok (.getfield 73, 3) := by decide +kernel
theorem dX11_has_66 : decode cX11_has 66 = .ok (.aload_n 0, 1) := by decide +kernel
theorem dX11_has_67 : decode cX11_has 67 = .ok (.getfield 48, 3) := by decide +kernel
theorem dX11_has_70 : decode cX11_has 70 = .ok (.iaload, 1) := by decide +kernel
theorem dX11_has_71 : decode cX11_has 71 = .ok (.ireturn, 1) := by decide +kernel
theorem dX11_has_72 : decode cX11_has 72 = .ok (.aload_n 0, 1) := by decide +kernel
theorem dX11_has_73 : decode cX11_has 73 = .ok (.getfield 85, 3) := by decide +kernel
theorem dX11_has_76 : decode cX11_has 76 = .ok (.aload_n 0, 1) := by decide +kernel
theorem dX11_has_77 : decode cX11_has 77 = .ok (.getfield 48, 3) := by decide +kernel
theorem dX11_has_80 : decode cX11_has 80 = .ok (.iaload, 1) := by decide +kernel
theorem dX11_has_81 : decode cX11_has 81 = .ok (.ireturn, 1) := by decide +kernel
theorem dX11_has_82 : decode cX11_has 82 = .ok (.aload_n 0, 1) := by decide +kernel
theorem dX11_has_83 : decode cX11_has 83 = .ok (.getfield 94, 3) := by decide +kernel
theorem dX11_has_86 : decode cX11_has 86 = .ok (.aload_n 0, 1) := by decide +kernel
theorem dX11_has_87 : decode cX11_has 87 = .ok (.getfield 48, 3) := by decide +kernel
theorem dX11_has_90 : decode cX11_has 90 = .ok (.iaload, 1) := by decide +kernel
theorem dX11_has_91 : decode cX11_has 91 = .ok (.ireturn, 1) := by decide +kernel
theorem dX11_has_92 : decode cX11_has 92 = .ok (.aload_n 0, 1) := by decide +kernel
theorem dX11_has_93 : decode cX11_has 93 = .ok (.getfield 106, 3) := by decide +kernel
theorem dX11_has_96 : decode cX11_has 96 = .ok (.aload_n 0, 1) := by decide +kernel
theorem dX11_has_97 : decode cX11_has 97 = .ok (.getfield 48, 3) := by decide +kernel
theorem dX11_has_100 : decode cX11_has 100 = .ok (.iaload, 1) := by decide +kernel
theorem dX11_has_101 : decode cX11_has 101 = .ok (.ireturn, 1) := by decide +kernel
theorem dX11_has_102 : decode cX11_has 102 = .ok (.aload_n 0, 1) := by decide +kernel
theorem dX11_has_103 : decode cX11_has 103 = .ok (.getfield 171, 3) := by decide +kernel
theorem dX11_has_106 : decode cX11_has 106 = .ok (.ireturn, 1) := by decide +kernel
theorem dX11_has_107 : decode cX11_has 107 = .ok (.aload_n 0, 1) := by decide +kernel
theorem dX11_has_108 : decode cX11_has 108 = .ok (.getfield 183, 3) := by decide +kernel
theorem dX11_has_111 : decode cX11_has 111 = .ok (.ireturn, 1) := by decide +kernel
theorem dX11_has_112 : decode cX11_has 112 = .ok (.aload_n 0, 1) := by decide +kernel
theorem dX11_has_113 : decode cX11_has 113 = .ok (.getfield 195, 3) := by decide +kernel
theorem dX11_has_116 : decode cX11_has 116 = .ok (.ireturn, 1) := by decide +kernel
theorem dX11_has_117 : decode cX11_has 117 = .ok (.aload_n 0, 1) := by decide +kernel
theorem dX11_has_118 : decode cX11_has 118 = .ok (.getfield 201, 3) := by decide +kernel
theorem dX11_has_121 : decode cX11_has 121 = .ok (.ireturn, 1) := by decide +kernel
theorem dX11_has_122 : decode cX11_has 122 = .ok (.iconst (-1), 1) := by decide +kernel
theorem dX11_has_123 : decode cX11_has 123 = .ok (.ireturn, 1) := by decide +kernel
theorem dX11_manyOf_0 : decode cX11_manyOf 0 = .ok (.iload_n 1, 1) := by decide +kernel
theorem dX11_manyOf_1 : decode cX11_manyOf 1 = .ok (.ifCond .ne 15, 3) := by decide +kernel
theorem dX11_manyOf_4 : decode cX11_manyOf 4 = .ok (.aload_n 0, 1) := by decide +kernel
theorem dX11_manyOf_5 : decode cX11_manyOf 5 = .ok (.getfield 54, 3) := by decide +kernel
theorem dX11_manyOf_8 : decode cX11_manyOf 8 = .ok (.aload_n 0, 1) := by decide +kernel
theorem dX11_manyOf_9 : decode cX11_manyOf 9 = .ok (.getfield 48, 3) := by decide +kernel
theorem dX11_manyOf_12 : decode cX11_manyOf 12 = .ok (.iaload, 1) := by decide +kernel
theorem dX11_manyOf_13 : decode cX11_manyOf 13 = .ok (.goto 29, 3) := by decide +kernel
theorem dX11_manyOf_16 : decode cX11_manyOf 16 = .ok (.iload_n 1, 1) := by decide +kernel
theorem dX11_manyOf_17 : decode cX11_manyOf 17 = .ok (.iconst 1, 1) := by decide +kernel
theorem dX11_manyOf_18 : decode cX11_manyOf 18 = .ok (.if_icmp .ne 15, 3) := by decide +kernel
theorem dX11_manyOf_21 : decode cX11_manyOf 21 = .ok (.aload_n 0, 1) := by decide +kernel
theorem dX11_manyOf_22 : decode cX11_manyOf 22 = .ok (.getfield 73, 3) := by decide +kernel
theorem dX11_manyOf_25 : decode cX11_manyOf 25 = .ok (.aload_n 0, 1) := by decide +kernel
theorem dX11_manyOf_26 : decode cX11_manyOf 26 = .ok (.getfield 48, 3) := by decide +kernel
theorem dX11_manyOf_29 : decode cX11_manyOf 29 = .ok (.iaload, 1) := by decide +kernel
theorem dX11_manyOf_30 : decode cX11_manyOf 30 = .ok (.goto 12, 3) := by decide +kernel
theorem dX11_manyOf_33 : decode cX11_manyOf 33 = .ok (.aload_n 0, 1) := by decide +kernel
theorem dX11_manyOf_34 : decode cX11_manyOf 34 = .ok (.getfield 106, 3) := by decide +kernel
theorem dX11_manyOf_37 : decode cX11_manyOf 37 = .ok (.aload_n 0, 1) := by decide +kernel
theorem dX11_manyOf_38 : decode cX11_manyOf 38 = .ok (.getfield 48, 3) := by decide +kernel
theorem dX11_manyOf_41 : decode cX11_manyOf 41 = .ok (.iaload, 1) := by decide +kernel
theorem dX11_manyOf_42 : decode cX11_manyOf 42 = .ok (.ireturn, 1) := by decide +kernel
theorem dX11_letter_0 : decode cX11_letter 0 = .ok (.iload_n 1, 1) := by decide +kernel
theorem dX11_letter_1 : decode cX11_letter 1 = .ok (.iconst 0, 1) := by decide +kernel
theorem dX11_letter_2 : decode cX11_letter 2 = .ok (.iconst 2, 1) := by decide +kernel
theorem dX11_letter_3 : decode cX11_letter 3 = .ok (.invokestatic 309, 3) := by decide +kernel
theorem dX11_letter_6 : decode cX11_letter 6 = .ok (.ifCond .eq 18, 3) := by decide +kernel
theorem dX11_letter_9 : decode cX11_letter 9 = .ok (.iload_n 2, 1) := by decide +kernel
theorem dX11_letter_10 : decode cX11_letter 10 = .ok (.iconst 0, 1) := by decide +kernel
theorem dX11_letter_11 : decode cX11_letter 11 = .ok (.aload_n 0, 1) := by decide +kernel
theorem dX11_letter_12 : decode cX11_letter 12 = .ok (.iload_n 1, 1) := by decide +kernel
theorem dX11_letter_13 : decode cX11_letter 13 = .ok (.invokevirtual 461, 3) := by decide +kernel
theorem dX11_letter_16 : decode cX11_letter 16 = .ok (.iconst 1, 1) := by decide +kernel
theorem dX11_letter_17 : decode cX11_letter 17 = .ok (.isub, 1) := by decide +kernel
theorem dX11_letter_18 : decode cX11_letter 18 = .ok (.invokestatic 309, 3) := by decide +kernel
theorem dX11_letter_21 : decode cX11_letter 21 = .ok (.ifCond .ne 5, 3) := by decide +kernel
theorem dX11_letter_24 : decode cX11_letter 24 = .ok (.iconst (-1), 1) := by decide +kernel
theorem dX11_letter_25 : decode cX11_letter 25 = .ok (.ireturn, 1) := by decide +kernel
theorem dX11_letter_26 : decode cX11_letter 26 = .ok (.aload_n 0, 1) := by decide +kernel
theorem dX11_letter_27 : decode cX11_letter 27 = .ok (.aload_n 0, 1) := by decide +kernel
theorem dX11_letter_28 : decode cX11_letter 28 = .ok (.getfield 48, 3) := by decide +kernel
theorem dX11_letter_31 : decode cX11_letter 31 = .ok (.iload_n 1, 1) := by decide +kernel
theorem dX11_letter_32 : decode cX11_letter 32 = .ok (.iload_n 2, 1) := by decide +kernel
theorem dX11_letter_33 : decode cX11_letter 33 = .ok (.invokevirtual 305, 3) := by decide +kernel
theorem dX11_letter_36 : decode cX11_letter 36 = .ok (.lstore 4, 2) := by decide +kernel
theorem dX11_letter_38 : decode cX11_letter 38 = .ok (.iconst 0, 1) := by decide +kernel
theorem dX11_letter_39 : decode cX11_letter 39 = .ok (.istore 6, 2) := by decide +kernel
theorem dX11_letter_41 : decode cX11_letter 41 = .ok (.lload 4, 2) := by decide +kernel
theorem dX11_letter_43 : decode cX11_letter 43 = .ok (.lstore 7, 2) := by decide +kernel
theorem dX11_letter_45 : decode cX11_letter 45 = .ok (.lload 7, 2) := by decide +kernel
theorem dX11_letter_47 : decode cX11_letter 47 = .ok (.lconst 0, 1) := by decide +kernel
theorem dX11_letter_48 : decode cX11_letter 48 = .ok (.lcmp, 1) := by decide +kernel
theorem dX11_letter_49 : decode cX11_letter 49 = .ok (.ifCond .eq 16, 3) := by decide +kernel
theorem dX11_letter_52 : decode cX11_letter 52 = .ok (.iinc 6 1, 3) := by decide +kernel
theorem dX11_letter_55 : decode cX11_letter 55 = .ok (.lload 7, 2) := by decide +kernel
theorem dX11_letter_57 : decode cX11_letter 57 = .ok (.bipush 8, 2) := by decide +kernel
theorem dX11_letter_59 : decode cX11_letter 59 = .ok (.lushr, 1) := by decide +kernel
theorem dX11_letter_60 : decode cX11_letter 60 = .ok (.lstore 7, 2) := by decide +kernel
theorem dX11_letter_62 : decode cX11_letter 62 = .ok (.goto (-17), 3) := by decide +kernel
theorem dX11_letter_65 : decode cX11_letter 65 = .ok (.iload_n 3, 1) := by decide +kernel
theorem dX11_letter_66 : decode cX11_letter 66 = .ok (.ifCond .lt 9, 3) := by decide +kernel
theorem dX11_letter_69 : decode cX11_letter 69 = .ok (.iload_n 3, 1) := by decide +kernel
theorem dX11_letter_70 : decode cX11_letter 70 = .ok (.iload 6, 2) := by decide +kernel
theorem dX11_letter_72 : decode cX11_letter 72 = .ok (.if_icmp .lt 7, 3) := by decide +kernel
theorem dX11_letter_75 : decode cX11_letter 75 = .ok (.iconst (-1), 1) := by decide +kernel
theorem dX11_letter_76 : decode cX11_letter 76 = .ok (.goto 20, 3) := by decide +kernel
theorem dX11_letter_79 : decode cX11_letter 79 = .ok (.lload 4, 2) := by decide +kernel
theorem dX11_letter_81 : decode cX11_letter 81 = .ok (.bipush 8, 2) := by decide +kernel
theorem dX11_letter_83 : decode cX11_letter 83 = .ok (.iload 6, 2) := by decide +kernel
theorem dX11_letter_85 : decode cX11_letter 85 = .ok (.iconst 1, 1) := by decide +kernel
theorem dX11_letter_86 : decode cX11_letter 86 = .ok (.isub, 1) := by decide +kernel
theorem dX11_letter_87 : decode cX11_letter 87 = .ok (.iload_n 3, 1) := by decide +kernel
theorem dX11_letter_88 : decode cX11_letter 88 = .ok (.isub, 1) := by decide +kernel
theorem dX11_letter_89 : decode cX11_letter 89 = .ok (.imul, 1) := by decide +kernel
theorem dX11_letter_90 : decode cX11_letter 90 = .ok (.lushr, 1) := by decide +kernel
theorem dX11_letter_91 : decode cX11_letter 91 = .ok (.ldc2_w 351, 3) := by decide +kernel
theorem dX11_letter_94 : decode cX11_letter 94 = .ok (.land, 1) := by decide +kernel
theorem dX11_letter_95 : decode cX11_letter 95 = .ok (.l2i, 1) := by decide +kernel
theorem dX11_letter_96 : decode cX11_letter 96 = .ok (.ireturn, 1) := by decide +kernel
theorem dX11_ounces_0 : decode cX11_ounces 0 = .ok (.iload_n 1, 1) := by decide +kernel
theorem dX11_ounces_1 : decode cX11_ounces 1 = .ok (.invokestatic 464, 3) := by decide +kernel
theorem dX11_ounces_4 : decode cX11_ounces 4 = .ok (.ifCond .eq 14, 3) := by decide +kernel
theorem dX11_ounces_7 : decode cX11_ounces 7 = .ok (.aload_n 0, 1) := by decide +kernel
theorem dX11_ounces_8 : decode cX11_ounces 8 = .ok (.iload_n 1, 1) := by decide +kernel
theorem dX11_ounces_9 : decode cX11_ounces 9 = .ok (.bipush 97, 2) := by decide +kernel
theorem dX11_ounces_11 : decode cX11_ounces 11 = .ok (.isub, 1) := by decide +kernel
theorem dX11_ounces_12 : decode cX11_ounces 12 = .ok (.invokevirtual 433, 3) := by decide +kernel
theorem dX11_ounces_15 : decode cX11_ounces 15 = .ok (.goto 4, 3) := by decide +kernel
theorem dX11_ounces_18 : decode cX11_ounces 18 = .ok (.iconst (-1), 1) := by decide +kernel
theorem dX11_ounces_19 : decode cX11_ounces 19 = .ok (.ireturn, 1) := by decide +kernel
theorem dX11_title__0 : decode cX11_title_ 0 = .ok (.aload_n 0, 1) := by decide +kernel
theorem dX11_title__1 : decode cX11_title_ 1 = .ok (.iload_n 1, 1) := by decide +kernel
theorem dX11_title__2 : decode cX11_title_ 2 = .ok (.invokevirtual 467, 3) := by decide +kernel
theorem dX11_title__5 : decode cX11_title_ 5 = .ok (.ifCond .ne 5, 3) := by decide +kernel
theorem dX11_title__8 : decode cX11_title_ 8 = .ok (.iconst (-1), 1) := by decide +kernel
theorem dX11_title__9 : decode cX11_title_ 9 = .ok (.ireturn, 1) := by decide +kernel
theorem dX11_title__10 : decode cX11_title_ 10 = .ok (.iconst 0, 1) := by decide +kernel
theorem dX11_title__11 : decode cX11_title_ 11 = .ok (.istore_n 3, 1) := by decide +kernel
theorem dX11_title__12 : decode cX11_title_ 12 = .ok (.iconst 0, 1) := by decide +kernel
theorem dX11_title__13 : decode cX11_title_ 13 = .ok (.istore 4, 2) := by decide +kernel
theorem dX11_title__15 : decode cX11_title_ 15 = .ok (.iload 4, 2) := by decide +kernel
theorem dX11_title__17 : decode cX11_title_ 17 = .ok (.aload_n 0, 1) := by decide +kernel
theorem dX11_title__18 : decode cX11_title_ 18 = .ok (.getfield 54, 3) := by decide +kernel
theorem dX11_title__21 : decode cX11_title_ 21 = .ok (.aload_n 0, 1) := by decide +kernel
theorem dX11_title__22 : decode cX11_title_ 22 = .ok (.getfield 48, 3) := by decide +kernel
theorem dX11_title__25 : decode cX11_title_ 25 = .ok (.iaload, 1) := by decide +kernel
theorem dX11_title__26 : decode cX11_title_ 26 = .ok (.if_icmp .ge 30, 3) := by decide +kernel
theorem dX11_title__29 : decode cX11_title_ 29 = .ok (.iload_n 3, 1) := by decide +kernel
theorem dX11_title__30 : decode cX11_title_ 30 = .ok (.aload_n 0, 1) := by decide +kernel
theorem dX11_title__31 : decode cX11_title_ 31 = .ok (.iload 4, 2) := by decide +kernel
theorem dX11_title__33 : decode cX11_title_ 33 = .ok (.iload_n 1, 1) := by decide +kernel
theorem dX11_title__34 : decode cX11_title_ 34 = .ok (.invokevirtual 470, 3) := by decide +kernel
theorem dX11_title__37 : decode cX11_title_ 37 = .ok (.ifCond .eq 10, 3) := by decide +kernel
theorem dX11_title__40 : decode cX11_title_ 40 = .ok (.iconst 1, 1) := by decide +kernel
theorem dX11_title__41 : decode cX11_title_ 41 = .ok (.iload 4, 2) := by decide +kernel
theorem dX11_title__43 : decode cX11_title_ 43 = .ok (.ishl, 1) := by decide +kernel
theorem dX11_title__44 : decode cX11_title_ 44 = .ok (.goto 4, 3) := by decide +kernel
theorem dX11_title__47 : decode cX11_title_ 47 = .ok (.iconst 0, 1) := by decide +kernel
theorem dX11_title__48 : decode cX11_title_ 48 = .ok (.ior, 1) := by decide +kernel
theorem dX11_title__49 : decode cX11_title_ 49 = .ok (.istore_n 3, 1) := by decide +kernel
theorem dX11_title__50 : decode cX11_title_ 50 = .ok (.iinc 4 1, 3) := by decide +kernel
theorem dX11_title__53 : decode cX11_title_ 53 = .ok (.goto (-38), 3) := by decide +kernel
theorem dX11_title__56 : decode cX11_title_ 56 = .ok (.iload_n 2, 1) := by decide +kernel
theorem dX11_title__57 : decode cX11_title_ 57 = .ok (.ifCond .ne 11, 3) := by decide +kernel
theorem dX11_title__60 : decode cX11_title_ 60 = .ok (.aload_n 0, 1) := by decide +kernel
theorem dX11_title__61 : decode cX11_title_ 61 = .ok (.iload_n 1, 1) := by decide +kernel
theorem dX11_title__62 : decode cX11_title_ 62 = .ok (.invokevirtual 439, 3) := by decide +kernel
theorem dX11_title__65 : decode cX11_title_ 65 = .ok (.goto 39, 3) := by decide +kernel
theorem dX11_title__68 : decode cX11_title_ 68 = .ok (.iload_n 2, 1) := by decide +kernel
theorem dX11_title__69 : decode cX11_title_ 69 = .ok (.iconst 1, 1) := by decide +kernel
theorem dX11_title__70 : decode cX11_title_ 70 = .ok (.if_icmp .ne 11, 3) := by decide +kernel
theorem dX11_title__73 : decode cX11_title_ 73 = .ok (.aload_n 0, 1) := by decide +kernel
theorem dX11_title__74 : decode cX11_title_ 74 = .ok (.iload_n 1, 1) := by decide +kernel
theorem dX11_title__75 : decode cX11_title_ 75 = .ok (.invokevirtual 436, 3) := by decide +kernel
theorem dX11_title__78 : decode cX11_title_ 78 = .ok (.goto 26, 3) := by decide +kernel
theorem dX11_title__81 : decode cX11_title_ 81 = .ok (.iload_n 2, 1) := by decide +kernel
theorem dX11_title__82 : decode cX11_title_ 82 = .ok (.iconst 2, 1) := by decide +kernel
theorem dX11_title__83 : decode cX11_title_ 83 = .ok (.if_icmp .ne 11, 3) := by decide +kernel
theorem dX11_title__86 : decode cX11_title_ 86 = .ok (.aload_n 0, 1) := by decide +kernel
theorem dX11_title__87 : decode cX11_title_ 87 = .ok (.iload_n 1, 1) := by decide +kernel
theorem dX11_title__88 : decode cX11_title_ 88 = .ok (.invokevirtual 474, 3) := by decide +kernel
theorem dX11_title__91 : decode cX11_title_ 91 = .ok (.goto 13, 3) := by decide +kernel
theorem dX11_title__94 : decode cX11_title_ 94 = .ok (.iload_n 2, 1) := by decide +kernel
theorem dX11_title__95 : decode cX11_title_ 95 = .ok (.iconst 3, 1) := by decide +kernel
theorem dX11_title__96 : decode cX11_title_ 96 = .ok (.if_icmp .ne 7, 3) := by decide +kernel
theorem dX11_title__99 : decode cX11_title_ 99 = .ok (.iload_n 3, 1) := by decide +kernel
theorem dX11_title__100 : decode cX11_title_ 100 = .ok (.goto 4, 3) := by decide +kernel
theorem dX11_title__103 : decode cX11_title_ 103 = .ok (.iconst (-1), 1) := by decide +kernel
theorem dX11_title__104 : decode cX11_title_ 104 = .ok (.ireturn, 1) := by decide +kernel
theorem dX11_looseMany_0 : decode cX11_looseMany 0 = .ok (.iconst 0, 1) := by decide +kernel
theorem dX11_looseMany_1 : decode cX11_looseMany 1 = .ok (.istore_n 2, 1) := by decide +kernel
theorem dX11_looseMany_2 : decode cX11_looseMany 2 = .ok (.iconst 0, 1) := by decide +kernel
theorem dX11_looseMany_3 : decode cX11_looseMany 3 = .ok (.istore_n 3, 1) := by decide +kernel
theorem dX11_looseMany_4 : decode cX11_looseMany 4 = .ok (.iload_n 3, 1) := by decide +kernel
theorem dX11_looseMany_5 : decode cX11_looseMany 5 = .ok (.bipush 26, 2) := by decide +kernel
theorem dX11_looseMany_7 : decode cX11_looseMany 7 = .ok (.if_icmp .ge 23, 3) := by decide +kernel
theorem dX11_looseMany_10 : decode cX11_looseMany 10 = .ok (.iload_n 2, 1) := by decide +kernel
theorem dX11_looseMany_11 : decode cX11_looseMany 11 = .ok (.aload_n 0, 1) := by decide +kernel
theorem dX11_looseMany_12 : decode cX11_looseMany 12 = .ok (.getfield 177, 3) := by decide +kernel
theorem dX11_looseMany_15 : decode cX11_looseMany 15 = .ok (.bipush 26, 2) := by decide +kernel
theorem dX11_looseMany_17 : decode cX11_looseMany 17 = .ok (.iload_n 1, 1) := by decide +kernel
theorem dX11_looseMany_18 : decode cX11_looseMany 18 = .ok (.imul, 1) := by decide +kernel
theorem dX11_looseMany_19 : decode cX11_looseMany 19 = .ok (.iload_n 3, 1) := by decide +kernel
theorem dX11_looseMany_20 : decode cX11_looseMany 20 = .ok (.iadd, 1) := by decide +kernel
theorem dX11_looseMany_21 : decode cX11_looseMany 21 = .ok (.iaload, 1) := by decide +kernel
theorem dX11_looseMany_22 : decode cX11_looseMany 22 = .ok (.iadd, 1) := by decide +kernel
theorem dX11_looseMany_23 : decode cX11_looseMany 23 = .ok (.istore_n 2, 1) := by decide +kernel
theorem dX11_looseMany_24 : decode cX11_looseMany 24 = .ok (.iinc 3 1, 3) := by decide +kernel
theorem dX11_looseMany_27 : decode cX11_looseMany 27 = .ok (.goto (-23), 3) := by decide +kernel
theorem dX11_looseMany_30 : decode cX11_looseMany 30 = .ok (.iload_n 2, 1) := by decide +kernel
theorem dX11_looseMany_31 : decode cX11_looseMany 31 = .ok (.ireturn, 1) := by decide +kernel
theorem dX11_allOf_0 : decode cX11_allOf 0 = .ok (.aload_n 0, 1) := by decide +kernel
theorem dX11_allOf_1 : decode cX11_allOf 1 = .ok (.getfield 177, 3) := by decide +kernel
theorem dX11_allOf_4 : decode cX11_allOf 4 = .ok (.bipush 26, 2) := by decide +kernel
theorem dX11_allOf_6 : decode cX11_allOf 6 = .ok (.iload_n 1, 1) := by decide +kernel
theorem dX11_allOf_7 : decode cX11_allOf 7 = .ok (.imul, 1) := by decide +kernel
theorem dX11_allOf_8 : decode cX11_allOf 8 = .ok (.iload_n 2, 1) := by decide +kernel
theorem dX11_allOf_9 : decode cX11_allOf 9 = .ok (.iadd, 1) := by decide +kernel
theorem dX11_allOf_10 : decode cX11_allOf 10 = .ok (.iaload, 1) := by decide +kernel
theorem dX11_allOf_11 : decode cX11_allOf 11 = .ok (.istore_n 3, 1) := by decide +kernel
theorem dX11_allOf_12 : decode cX11_allOf 12 = .ok (.iconst 0, 1) := by decide +kernel
theorem dX11_allOf_13 : decode cX11_allOf 13 = .ok (.istore 4, 2) := by decide +kernel
theorem dX11_allOf_15 : decode cX11_allOf 15 = .ok (.iload 4, 2) := by decide +kernel
theorem dX11_allOf_17 : decode cX11_allOf 17 = .ok (.aload_n 0, 1) := by decide +kernel
theorem dX11_allOf_18 : decode cX11_allOf 18 = .ok (.getfield 73, 3) := by decide +kernel
theorem dX11_allOf_21 : decode cX11_allOf 21 = .ok (.aload_n 0, 1) := by decide +kernel
theorem dX11_allOf_22 : decode cX11_allOf 22 = .ok (.getfield 48, 3) := by decide +kernel
theorem dX11_allOf_25 : decode cX11_allOf 25 = .ok (.iaload, 1) := by decide +kernel
theorem dX11_allOf_26 : decode cX11_allOf 26 = .ok (.if_icmp .ge 33, 3) := by decide +kernel
theorem dX11_allOf_29 : decode cX11_allOf 29 = .ok (.iload_n 3, 1) := by decide +kernel
theorem dX11_allOf_30 : decode cX11_allOf 30 = .ok (.aload_n 0, 1) := by decide +kernel
theorem dX11_allOf_31 : decode cX11_allOf 31 = .ok (.iload_n 1, 1) := by decide +kernel
theorem dX11_allOf_32 : decode cX11_allOf 32 = .ok (.iload 4, 2) := by decide +kernel
theorem dX11_allOf_34 : decode cX11_allOf 34 = .ok (.invokevirtual 470, 3) := by decide +kernel
theorem dX11_allOf_37 : decode cX11_allOf 37 = .ok (.ifCond .eq 13, 3) := by decide +kernel
theorem dX11_allOf_40 : decode cX11_allOf 40 = .ok (.aload_n 0, 1) := by decide +kernel
theorem dX11_allOf_41 : decode cX11_allOf 41 = .ok (.iload 4, 2) := by decide +kernel
theorem dX11_allOf_43 : decode cX11_allOf 43 = .ok (.iload_n 2, 1) := by decide +kernel
theorem dX11_allOf_44 : decode cX11_allOf 44 = .ok (.invokevirtual 477, 3) := by decide +kernel
theorem dX11_allOf_47 : decode cX11_allOf 47 = .ok (.goto 4, 3) := by decide +kernel
theorem dX11_allOf_50 : decode cX11_allOf 50 = .ok (.iconst 0, 1) := by decide +kernel
theorem dX11_allOf_51 : decode cX11_allOf 51 = .ok (.iadd, 1) := by decide +kernel
theorem dX11_allOf_52 : decode cX11_allOf 52 = .ok (.istore_n 3, 1) := by decide +kernel
theorem dX11_allOf_53 : decode cX11_allOf 53 = .ok (.iinc 4 1, 3) := by decide +kernel
theorem dX11_allOf_56 : decode cX11_allOf 56 = .ok (.goto (-41), 3) := by decide +kernel
theorem dX11_allOf_59 : decode cX11_allOf 59 = .ok (.iload_n 3, 1) := by decide +kernel
theorem dX11_allOf_60 : decode cX11_allOf 60 = .ok (.ireturn, 1) := by decide +kernel
theorem dX11_calledBy_0 : decode cX11_calledBy 0 = .ok (.iconst 0, 1) := by decide +kernel
theorem dX11_calledBy_1 : decode cX11_calledBy 1 = .ok (.istore_n 2, 1) := by decide +kernel
theorem dX11_calledBy_2 : decode cX11_calledBy 2 = .ok (.iconst 0, 1) := by decide +kernel
theorem dX11_calledBy_3 : decode cX11_calledBy 3 = .ok (.istore_n 3, 1) := by decide +kernel
theorem dX11_calledBy_4 : decode cX11_calledBy 4 = .ok (.iload_n 3, 1) := by decide +kernel
theorem dX11_calledBy_5 : decode cX11_calledBy 5 = .ok (.aload_n 0, 1) := by decide +kernel
theorem dX11_calledBy_6 : decode cX11_calledBy 6 = .ok (.getfield 73, 3) := by decide +kernel
theorem dX11_calledBy_9 : decode cX11_calledBy 9 = .ok (.aload_n 0, 1) := by decide +kernel
theorem dX11_calledBy_10 : decode cX11_calledBy 10 = .ok (.getfield 48, 3) := by decide +kernel
theorem dX11_calledBy_13 : decode cX11_calledBy 13 = .ok (.iaload, 1) := by decide +kernel
theorem dX11_calledBy_14 : decode cX11_calledBy 14 = .ok (.if_icmp .ge 82, 3) := by decide +kernel
theorem dX11_calledBy_17 : decode cX11_calledBy 17 = .ok (.iconst 1, 1) := by decide +kernel
theorem dX11_calledBy_18 : decode cX11_calledBy 18 = .ok (.istore 4, 2) := by decide +kernel
theorem dX11_calledBy_20 : decode cX11_calledBy 20 = .ok (.iconst 0, 1) := by decide +kernel
theorem dX11_calledBy_21 : decode cX11_calledBy 21 = .ok (.istore 5, 2) := by decide +kernel
theorem dX11_calledBy_23 : decode cX11_calledBy 23 = .ok (.iload 5, 2) := by decide +kernel
theorem dX11_calledBy_25 : decode cX11_calledBy 25 = .ok (.bipush 26, 2) := by decide +kernel
theorem dX11_calledBy_27 : decode cX11_calledBy 27 = .ok (.if_icmp .ge 48, 3) := by decide +kernel
theorem dX11_calledBy_30 : decode cX11_calledBy 30 = .ok (.iload 4, 2) := by decide +kernel
theorem dX11_calledBy_32 : decode cX11_calledBy 32 = .ok (.ifCond .eq 34, 3) := by decide +kernel
theorem dX11_calledBy_35 : decode cX11_calledBy 35 = .ok (.aload_n 0, 1) := by decide +kernel
theorem dX11_calledBy_36 : decode cX11_calledBy 36 = .ok (.iload_n 3, 1) := by decide +kernel
theorem dX11_calledBy_37 : decode cX11_calledBy 37 = .ok (.iload 5, 2) := by decide +kernel
theorem dX11_calledBy_39 : decode cX11_calledBy 39 = .ok (.invokevirtual 477, 3) := by decide +kernel
theorem dX11_calledBy_42 : decode cX11_calledBy 42 = .ok (.ifCond .eq 20, 3) := by decide +kernel
theorem dX11_calledBy_45 : decode cX11_calledBy 45 = .ok (.aload_n 0, 1) := by decide +kernel
theorem dX11_calledBy_46 : decode cX11_calledBy 46 = .ok (.iload_n 3, 1) := by decide +kernel
theorem dX11_calledBy_47 : decode cX11_calledBy 47 = .ok (.iload 5, 2) := by decide +kernel
theorem dX11_calledBy_49 : decode cX11_calledBy 49 = .ok (.invokevirtual 477, 3) := by decide +kernel
theorem dX11_calledBy_52 : decode cX11_calledBy 52 = .ok (.aload_n 0, 1) := by decide +kernel
theorem dX11_calledBy_53 : decode cX11_calledBy 53 = .ok (.iload_n 1, 1) := by decide +kernel
theorem dX11_calledBy_54 : decode cX11_calledBy 54 = .ok (.iload 5, 2) := by decide +kernel
theorem dX11_calledBy_56 : decode cX11_calledBy 56 = .ok (.invokevirtual 480, 3) := by decide +kernel
theorem dX11_calledBy_59 : decode cX11_calledBy 59 = .ok (.if_icmp .gt 7, 3) := by decide +kernel
theorem dX11_calledBy_62 : decode cX11_calledBy 62 = .ok (.iconst 1, 1) := by decide +kernel
theorem dX11_calledBy_63 : decode cX11_calledBy 63 = .ok (.goto 4, 3) := by decide +kernel
theorem dX11_calledBy_66 : decode cX11_calledBy 66 = .ok (.iconst 0, 1) := by decide +kernel
theorem dX11_calledBy_67 : decode cX11_calledBy 67 = .ok (.istore 4, 2) := by decide +kernel
theorem dX11_calledBy_69 : decode cX11_calledBy 69 = .ok (.iinc 5 1, 3) := by decide +kernel
theorem dX11_calledBy_72 : decode cX11_calledBy 72 = .ok (.goto (-49), 3) := by decide +kernel
theorem dX11_calledBy_75 : decode cX11_calledBy 75 = .ok (.iload_n 2, 1) := by decide +kernel
theorem dX11_calledBy_76 : decode cX11_calledBy 76 = .ok (.iload 4, 2) := by decide +kernel
theorem dX11_calledBy_78 : decode cX11_calledBy 78 = .ok (.ifCond .eq 9, 3) := by decide +kernel
theorem dX11_calledBy_81 : decode cX11_calledBy 81 = .ok (.iconst 1, 1) := by decide +kernel
theorem dX11_calledBy_82 : decode cX11_calledBy 82 = .ok (.iload_n 3, 1) := by decide +kernel
theorem dX11_calledBy_83 : decode cX11_calledBy 83 = .ok (.ishl, 1) := by decide +kernel
theorem dX11_calledBy_84 : decode cX11_calledBy 84 = .ok (.goto 4, 3) := by decide +kernel
theorem dX11_calledBy_87 : decode cX11_calledBy 87 = .ok (.iconst 0, 1) := by decide +kernel
theorem dX11_calledBy_88 : decode cX11_calledBy 88 = .ok (.ior, 1) := by decide +kernel
theorem dX11_calledBy_89 : decode cX11_calledBy 89 = .ok (.istore_n 2, 1) := by decide +kernel
theorem dX11_calledBy_90 : decode cX11_calledBy 90 = .ok (.iinc 3 1, 3) := by decide +kernel
theorem dX11_calledBy_93 : decode cX11_calledBy 93 = .ok (.goto (-89), 3) := by decide +kernel
theorem dX11_calledBy_96 : decode cX11_calledBy 96 = .ok (.iload_n 2, 1) := by decide +kernel
theorem dX11_calledBy_97 : decode cX11_calledBy 97 = .ok (.ireturn, 1) := by decide +kernel
theorem dX11_person__0 : decode cX11_person_ 0 = .ok (.aload_n 0, 1) := by decide +kernel
theorem dX11_person__1 : decode cX11_person_ 1 = .ok (.iload_n 1, 1) := by decide +kernel
theorem dX11_person__2 : decode cX11_person_ 2 = .ok (.invokevirtual 483, 3) := by decide +kernel
theorem dX11_person__5 : decode cX11_person_ 5 = .ok (.ifCond .ne 5, 3) := by decide +kernel
theorem dX11_person__8 : decode cX11_person_ 8 = .ok (.iconst (-1), 1) := by decide +kernel
theorem dX11_person__9 : decode cX11_person_ 9 = .ok (.ireturn, 1) := by decide +kernel
theorem dX11_person__10 : decode cX11_person_ 10 = .ok (.iload_n 2, 1) := by decide +kernel
theorem dX11_person__11 : decode cX11_person_ 11 = .ok (.tableswitch 129 0 8 #[49, 55, 61, 67, 79, 86, 92, 105, 123], 49) := by decide +kernel
theorem dX11_person__60 : decode cX11_person_ 60 = .ok (.aload_n 0, 1) := by decide +kernel
theorem dX11_person__61 : decode cX11_person_ 61 = .ok (.iload_n 1, 1) := by decide +kernel
theorem dX11_person__62 : decode cX11_person_ 62 = .ok (.invokevirtual 449, 3) := by decide +kernel
theorem dX11_person__65 : decode cX11_person_ 65 = .ok (.ireturn, 1) := by decide +kernel
theorem dX11_person__66 : decode cX11_person_ 66 = .ok (.aload_n 0, 1) := by decide +kernel
theorem dX11_person__67 : decode cX11_person_ 67 = .ok (.iload_n 1, 1) := by decide +kernel
theorem dX11_person__68 : decode cX11_person_ 68 = .ok (.invokevirtual 486, 3) := by decide +kernel
theorem dX11_person__71 : decode cX11_person_ 71 = .ok (.ireturn, 1) := by decide +kernel
theorem dX11_person__72 : decode cX11_person_ 72 = .ok (.aload_n 0, 1) := by decide +kernel
theorem dX11_person__73 : decode cX11_person_ 73 = .ok (.iload_n 1, 1) := by decide +kernel
theorem dX11_person__74 : decode cX11_person_ 74 = .ok (.invokevirtual 489, 3) := by decide +kernel
theorem dX11_person__77 : decode cX11_person_ 77 = .ok (.ireturn, 1) := by decide +kernel
theorem dX11_person__78 : decode cX11_person_ 78 = .ok (.aload_n 0, 1) := by decide +kernel
theorem dX11_person__79 : decode cX11_person_ 79 = .ok (.aload_n 0, 1) := by decide +kernel
theorem dX11_person__80 : decode cX11_person_ 80 = .ok (.getfield 174, 3) := by decide +kernel
theorem dX11_person__83 : decode cX11_person_ 83 = .ok (.iload_n 1, 1) := by decide +kernel
theorem dX11_person__84 : decode cX11_person_ 84 = .ok (.iaload, 1) := by decide +kernel
theorem dX11_person__85 : decode cX11_person_ 85 = .ok (.iconst 1, 1) := by decide +kernel
theorem dX11_person__86 : decode cX11_person_ 86 = .ok (.invokevirtual 442, 3) := by decide +kernel
theorem dX11_person__89 : decode cX11_person_ 89 = .ok (.ireturn, 1) := by decide +kernel
theorem dX11_person__90 : decode cX11_person_ 90 = .ok (.aload_n 0, 1) := by decide +kernel
theorem dX11_person__91 : decode cX11_person_ 91 = .ok (.getfield 174, 3) := by decide +kernel
theorem dX11_person__94 : decode cX11_person_ 94 = .ok (.iload_n 1, 1) := by decide +kernel
theorem dX11_person__95 : decode cX11_person_ 95 = .ok (.iaload, 1) := by decide +kernel
theorem dX11_person__96 : decode cX11_person_ 96 = .ok (.ireturn, 1) := by decide +kernel
theorem dX11_person__97 : decode cX11_person_ 97 = .ok (.aload_n 0, 1) := by decide +kernel
theorem dX11_person__98 : decode cX11_person_ 98 = .ok (.iload_n 1, 1) := by decide +kernel
theorem dX11_person__99 : decode cX11_person_ 99 = .ok (.invokevirtual 492, 3) := by decide +kernel
theorem dX11_person__102 : decode cX11_person_ 102 = .ok (.ireturn, 1) := by decide +kernel
theorem dX11_person__103 : decode cX11_person_ 103 = .ok (.aload_n 0, 1) := by decide +kernel
theorem dX11_person__104 : decode cX11_person_ 104 = .ok (.sipush 4095, 3) := by decide +kernel
theorem dX11_person__107 : decode cX11_person_ 107 = .ok (.aload_n 0, 1) := by decide +kernel
theorem dX11_person__108 : decode cX11_person_ 108 = .ok (.iload_n 1, 1) := by decide +kernel
theorem dX11_person__109 : decode cX11_person_ 109 = .ok (.invokevirtual 486, 3) := by decide +kernel
theorem dX11_person__112 : decode cX11_person_ 112 = .ok (.invokevirtual 495, 3) := by decide +kernel
theorem dX11_person__115 : decode cX11_person_ 115 = .ok (.ireturn, 1) := by decide +kernel
theorem dX11_person__116 : decode cX11_person_ 116 = .ok (.aload_n 0, 1) := by decide +kernel
theorem dX11_person__117 : decode cX11_person_ 117 = .ok (.aload_n 0, 1) := by decide +kernel
theorem dX11_person__118 : decode cX11_person_ 118 = .ok (.sipush 4095, 3) := by decide +kernel
theorem dX11_person__121 : decode cX11_person_ 121 = .ok (.aload_n 0, 1) := by decide +kernel
theorem dX11_person__122 : decode cX11_person_ 122 = .ok (.iload_n 1, 1) := by decide +kernel
theorem dX11_person__123 : decode cX11_person_ 123 = .ok (.invokevirtual 486, 3) := by decide +kernel
theorem dX11_person__126 : decode cX11_person_ 126 = .ok (.invokevirtual 495, 3) := by decide +kernel
theorem dX11_person__129 : decode cX11_person_ 129 = .ok (.iconst 1, 1) := by decide +kernel
theorem dX11_person__130 : decode cX11_person_ 130 = .ok (.invokevirtual 442, 3) := by decide +kernel
theorem dX11_person__133 : decode cX11_person_ 133 = .ok (.ireturn, 1) := by decide +kernel
theorem dX11_person__134 : decode cX11_person_ 134 = .ok (.aload_n 0, 1) := by decide +kernel
theorem dX11_person__135 : decode cX11_person_ 135 = .ok (.iload_n 1, 1) := by decide +kernel
theorem dX11_person__136 : decode cX11_person_ 136 = .ok (.invokevirtual 498, 3) := by decide +kernel
theorem dX11_person__139 : decode cX11_person_ 139 = .ok (.ireturn, 1) := by decide +kernel
theorem dX11_person__140 : decode cX11_person_ 140 = .ok (.iconst (-1), 1) := by decide +kernel
theorem dX11_person__141 : decode cX11_person_ 141 = .ok (.ireturn, 1) := by decide +kernel
theorem dX11_loose_0 : decode cX11_loose 0 = .ok (.iload_n 2, 1) := by decide +kernel
theorem dX11_loose_1 : decode cX11_loose 1 = .ok (.invokestatic 464, 3) := by decide +kernel
theorem dX11_loose_4 : decode cX11_loose 4 = .ok (.ifCond .eq 16, 3) := by decide +kernel
theorem dX11_loose_7 : decode cX11_loose 7 = .ok (.iload_n 1, 1) := by decide +kernel
theorem dX11_loose_8 : decode cX11_loose 8 = .ok (.iconst (-1), 1) := by decide +kernel
theorem dX11_loose_9 : decode cX11_loose 9 = .ok (.if_icmp .eq 13, 3) := by decide +kernel
theorem dX11_loose_12 : decode cX11_loose 12 = .ok (.aload_n 0, 1) := by decide +kernel
theorem dX11_loose_13 : decode cX11_loose 13 = .ok (.iload_n 1, 1) := by decide +kernel
theorem dX11_loose_14 : decode cX11_loose 14 = .ok (.invokevirtual 483, 3) := by decide +kernel
theorem dX11_loose_17 : decode cX11_loose 17 = .ok (.ifCond .ne 5, 3) := by decide +kernel
theorem dX11_loose_20 : decode cX11_loose 20 = .ok (.iconst (-1), 1) := by decide +kernel
theorem dX11_loose_21 : decode cX11_loose 21 = .ok (.ireturn, 1) := by decide +kernel
theorem dX11_loose_22 : decode cX11_loose 22 = .ok (.aload_n 0, 1) := by decide +kernel
theorem dX11_loose_23 : decode cX11_loose 23 = .ok (.getfield 177, 3) := by decide +kernel
theorem dX11_loose_26 : decode cX11_loose 26 = .ok (.bipush 26, 2) := by decide +kernel
theorem dX11_loose_28 : decode cX11_loose 28 = .ok (.iload_n 1, 1) := by decide +kernel
theorem dX11_loose_29 : decode cX11_loose 29 = .ok (.iconst (-1), 1) := by decide +kernel
theorem dX11_loose_30 : decode cX11_loose 30 = .ok (.if_icmp .ne 8, 3) := by decide +kernel
theorem dX11_loose_33 : decode cX11_loose 33 = .ok (.bipush 8, 2) := by decide +kernel
theorem dX11_loose_35 : decode cX11_loose 35 = .ok (.goto 4, 3) := by decide +kernel
theorem dX11_loose_38 : decode cX11_loose 38 = .ok (.iload_n 1, 1) := by decide +kernel
theorem dX11_loose_39 : decode cX11_loose 39 = .ok (.imul, 1) := by decide +kernel
theorem dX11_loose_40 : decode cX11_loose 40 = .ok (.iload_n 2, 1) := by decide +kernel
theorem dX11_loose_41 : decode cX11_loose 41 = .ok (.iadd, 1) := by decide +kernel
theorem dX11_loose_42 : decode cX11_loose 42 = .ok (.bipush 97, 2) := by decide +kernel
theorem dX11_loose_44 : decode cX11_loose 44 = .ok (.isub, 1) := by decide +kernel
theorem dX11_loose_45 : decode cX11_loose 45 = .ok (.iaload, 1) := by decide +kernel
theorem dX11_loose_46 : decode cX11_loose 46 = .ok (.ireturn, 1) := by decide +kernel
theorem dX11_coatsAll_0 : decode cX11_coatsAll 0 = .ok (.iconst 0, 1) := by decide +kernel
theorem dX11_coatsAll_1 : decode cX11_coatsAll 1 = .ok (.istore_n 1, 1) := by decide +kernel
theorem dX11_coatsAll_2 : decode cX11_coatsAll 2 = .ok (.iconst 0, 1) := by decide +kernel
theorem dX11_coatsAll_3 : decode cX11_coatsAll 3 = .ok (.istore_n 2, 1) := by decide +kernel
theorem dX11_coatsAll_4 : decode cX11_coatsAll 4 = .ok (.iload_n 2, 1) := by decide +kernel
theorem dX11_coatsAll_5 : decode cX11_coatsAll 5 = .ok (.aload_n 0, 1) := by decide +kernel
theorem dX11_coatsAll_6 : decode cX11_coatsAll 6 = .ok (.getfield 54, 3) := by decide +kernel
theorem dX11_coatsAll_9 : decode cX11_coatsAll 9 = .ok (.aload_n 0, 1) := by decide +kernel
theorem dX11_coatsAll_10 : decode cX11_coatsAll 10 = .ok (.getfield 48, 3) := by decide +kernel
theorem dX11_coatsAll_13 : decode cX11_coatsAll 13 = .ok (.iaload, 1) := by decide +kernel
theorem dX11_coatsAll_14 : decode cX11_coatsAll 14 = .ok (.if_icmp .ge 17, 3) := by decide +kernel
theorem dX11_coatsAll_17 : decode cX11_coatsAll 17 = .ok (.iload_n 1, 1) := by decide +kernel
theorem dX11_coatsAll_18 : decode cX11_coatsAll 18 = .ok (.aload_n 0, 1) := by decide +kernel
theorem dX11_coatsAll_19 : decode cX11_coatsAll 19 = .ok (.iload_n 2, 1) := by decide +kernel
theorem dX11_coatsAll_20 : decode cX11_coatsAll 20 = .ok (.invokevirtual 489, 3) := by decide +kernel
theorem dX11_coatsAll_23 : decode cX11_coatsAll 23 = .ok (.iadd, 1) := by decide +kernel
theorem dX11_coatsAll_24 : decode cX11_coatsAll 24 = .ok (.istore_n 1, 1) := by decide +kernel
theorem dX11_coatsAll_25 : decode cX11_coatsAll 25 = .ok (.iinc 2 1, 3) := by decide +kernel
theorem dX11_coatsAll_28 : decode cX11_coatsAll 28 = .ok (.goto (-24), 3) := by decide +kernel
theorem dX11_coatsAll_31 : decode cX11_coatsAll 31 = .ok (.iload_n 1, 1) := by decide +kernel
theorem dX11_coatsAll_32 : decode cX11_coatsAll 32 = .ok (.ireturn, 1) := by decide +kernel
theorem dX11_bulletsAll_0 : decode cX11_bulletsAll 0 = .ok (.iconst 0, 1) := by decide +kernel
theorem dX11_bulletsAll_1 : decode cX11_bulletsAll 1 = .ok (.istore_n 1, 1) := by decide +kernel
theorem dX11_bulletsAll_2 : decode cX11_bulletsAll 2 = .ok (.iconst 0, 1) := by decide +kernel
theorem dX11_bulletsAll_3 : decode cX11_bulletsAll 3 = .ok (.istore_n 2, 1) := by decide +kernel
theorem dX11_bulletsAll_4 : decode cX11_bulletsAll 4 = .ok (.iload_n 2, 1) := by decide +kernel
theorem dX11_bulletsAll_5 : decode cX11_bulletsAll 5 = .ok (.aload_n 0, 1) := by decide +kernel
theorem dX11_bulletsAll_6 : decode cX11_bulletsAll 6 = .ok (.getfield 195, 3) := by decide +kernel
theorem dX11_bulletsAll_9 : decode cX11_bulletsAll 9 = .ok (.if_icmp .ge 18, 3) := by decide +kernel
theorem dX11_bulletsAll_12 : decode cX11_bulletsAll 12 = .ok (.iload_n 1, 1) := by decide +kernel
theorem dX11_bulletsAll_13 : decode cX11_bulletsAll 13 = .ok (.aload_n 0, 1) := by decide +kernel
theorem dX11_bulletsAll_14 : decode cX11_bulletsAll 14 = .ok (.getfield 198, 3) := by decide +kernel
theorem dX11_bulletsAll_17 : decode cX11_bulletsAll 17 = .ok (.iload_n 2, 1) := by decide +kernel
theorem dX11_bulletsAll_18 : decode cX11_bulletsAll 18 = .ok (.iaload, 1) := by decide +kernel
theorem dX11_bulletsAll_19 : decode cX11_bulletsAll 19 = .ok (.iadd, 1) := by decide +kernel
theorem dX11_bulletsAll_20 : decode cX11_bulletsAll 20 = .ok (.istore_n 1, 1) := by decide +kernel
theorem dX11_bulletsAll_21 : decode cX11_bulletsAll 21 = .ok (.iinc 2 1, 3) := by decide +kernel
theorem dX11_bulletsAll_24 : decode cX11_bulletsAll 24 = .ok (.goto (-20), 3) := by decide +kernel
theorem dX11_bulletsAll_27 : decode cX11_bulletsAll 27 = .ok (.iload_n 1, 1) := by decide +kernel
theorem dX11_bulletsAll_28 : decode cX11_bulletsAll 28 = .ok (.ireturn, 1) := by decide +kernel
theorem dX11_lead_0 : decode cX11_lead 0 = .ok (.iload_n 1, 1) := by decide +kernel
theorem dX11_lead_1 : decode cX11_lead 1 = .ok (.tableswitch 79 0 4 #[35, 40, 47, 52, 57], 35) := by decide +kernel
theorem dX11_lead_36 : decode cX11_lead 36 = .ok (.aload_n 0, 1) := by decide +kernel
theorem dX11_lead_37 : decode cX11_lead 37 = .ok (.invokevirtual 501, 3) := by decide +kernel
theorem dX11_lead_40 : decode cX11_lead 40 = .ok (.ireturn, 1) := by decide +kernel
theorem dX11_lead_41 : decode cX11_lead 41 = .ok (.aload_n 0, 1) := by decide +kernel
theorem dX11_lead_42 : decode cX11_lead 42 = .ok (.bipush 8, 2) := by decide +kernel
theorem dX11_lead_44 : decode cX11_lead 44 = .ok (.invokevirtual 446, 3) := by decide +kernel
theorem dX11_lead_47 : decode cX11_lead 47 = .ok (.ireturn, 1) := by decide +kernel
theorem dX11_lead_48 : decode cX11_lead 48 = .ok (.aload_n 0, 1) := by decide +kernel
theorem dX11_lead_49 : decode cX11_lead 49 = .ok (.getfield 180, 3) := by decide +kernel
theorem dX11_lead_52 : decode cX11_lead 52 = .ok (.ireturn, 1) := by decide +kernel
theorem dX11_lead_53 : decode cX11_lead 53 = .ok (.aload_n 0, 1) := by decide +kernel
theorem dX11_lead_54 : decode cX11_lead 54 = .ok (.invokevirtual 504, 3) := by decide +kernel
theorem dX11_lead_57 : decode cX11_lead 57 = .ok (.ireturn, 1) := by decide +kernel
theorem dX11_lead_58 : decode cX11_lead 58 = .ok (.aload_n 0, 1) := by decide +kernel
theorem dX11_lead_59 : decode cX11_lead 59 = .ok (.invokevirtual 501, 3) := by decide +kernel
theorem dX11_lead_62 : decode cX11_lead 62 = .ok (.aload_n 0, 1) := by decide +kernel
theorem dX11_lead_63 : decode cX11_lead 63 = .ok (.bipush 8, 2) := by decide +kernel
theorem dX11_lead_65 : decode cX11_lead 65 = .ok (.invokevirtual 446, 3) := by decide +kernel
theorem dX11_lead_68 : decode cX11_lead 68 = .ok (.iadd, 1) := by decide +kernel
theorem dX11_lead_69 : decode cX11_lead 69 = .ok (.aload_n 0, 1) := by decide +kernel
theorem dX11_lead_70 : decode cX11_lead 70 = .ok (.getfield 180, 3) := by decide +kernel
theorem dX11_lead_73 : decode cX11_lead 73 = .ok (.iadd, 1) := by decide +kernel
theorem dX11_lead_74 : decode cX11_lead 74 = .ok (.aload_n 0, 1) := by decide +kernel
theorem dX11_lead_75 : decode cX11_lead 75 = .ok (.invokevirtual 504, 3) := by decide +kernel
theorem dX11_lead_78 : decode cX11_lead 78 = .ok (.iadd, 1) := by decide +kernel
theorem dX11_lead_79 : decode cX11_lead 79 = .ok (.ireturn, 1) := by decide +kernel
theorem dX11_lead_80 : decode cX11_lead 80 = .ok (.iconst (-1), 1) := by decide +kernel
theorem dX11_lead_81 : decode cX11_lead 81 = .ok (.ireturn, 1) := by decide +kernel
theorem dX11_notes_0 : decode cX11_notes 0 = .ok (.aload_n 0, 1) := by decide +kernel
theorem dX11_notes_1 : decode cX11_notes 1 = .ok (.getfield 201, 3) := by decide +kernel
theorem dX11_notes_4 : decode cX11_notes 4 = .ok (.bipush 60, 2) := by decide +kernel
theorem dX11_notes_6 : decode cX11_notes 6 = .ok (.if_icmp .ne 46, 3) := by decide +kernel
theorem dX11_notes_9 : decode cX11_notes 9 = .ok (.iconst 0, 1) := by decide +kernel
theorem dX11_notes_10 : decode cX11_notes 10 = .ok (.istore 5, 2) := by decide +kernel
theorem dX11_notes_12 : decode cX11_notes 12 = .ok (.iload 5, 2) := by decide +kernel
theorem dX11_notes_14 : decode cX11_notes 14 = .ok (.sipush 295, 3) := by decide +kernel
theorem dX11_notes_17 : decode cX11_notes 17 = .ok (.if_icmp .ge 25, 3) := by decide +kernel
theorem dX11_notes_20 : decode cX11_notes 20 = .ok (.aload_n 0, 1) := by decide +kernel
theorem dX11_notes_21 : decode cX11_notes 21 = .ok (.getfield 204, 3) := by decide +kernel
theorem dX11_notes_24 : decode cX11_notes 24 = .ok (.iload 5, 2) := by decide +kernel
theorem dX11_notes_26 : decode cX11_notes 26 = .ok (.aload_n 0, 1) := by decide +kernel
theorem dX11_notes_27 : decode cX11_notes 27 = .ok (.getfield 204, 3) := by decide +kernel
theorem dX11_notes_30 : decode cX11_notes 30 = .ok (.iload 5, 2) := by decide +kernel
theorem dX11_notes_32 : decode cX11_notes 32 = .ok (.iconst 5, 1) := by decide +kernel
theorem dX11_notes_33 : decode cX11_notes 33 = .ok (.iadd, 1) := by decide +kernel
theorem dX11_notes_34 : decode cX11_notes 34 = .ok (.iaload, 1) := by decide +kernel
theorem dX11_notes_35 : decode cX11_notes 35 = .ok (.iastore, 1) := by decide +kernel
theorem dX11_notes_36 : decode cX11_notes 36 = .ok (.iinc 5 1, 3) := by decide +kernel
theorem dX11_notes_39 : decode cX11_notes 39 = .ok (.goto (-27), 3) := by decide +kernel
theorem dX11_notes_42 : decode cX11_notes 42 = .ok (.aload_n 0, 1) := by decide +kernel
theorem dX11_notes_43 : decode cX11_notes 43 = .ok (.dup, 1) := by decide +kernel
theorem dX11_notes_44 : decode cX11_notes 44 = .ok (.getfield 201, 3) := by decide +kernel
theorem dX11_notes_47 : decode cX11_notes 47 = .ok (.iconst 1, 1) := by decide +kernel
theorem dX11_notes_48 : decode cX11_notes 48 = .ok (.isub, 1) := by decide +kernel
theorem dX11_notes_49 : decode cX11_notes 49 = .ok (.putfield 201, 3) := by decide +kernel
theorem dX11_notes_52 : decode cX11_notes 52 = .ok (.iconst 5, 1) := by decide +kernel
theorem dX11_notes_53 : decode cX11_notes 53 = .ok (.aload_n 0, 1) := by decide +kernel
theorem dX11_notes_54 : decode cX11_notes 54 = .ok (.getfield 201, 3) := by decide +kernel
theorem dX11_notes_57 : decode cX11_notes 57 = .ok (.imul, 1) := by decide +kernel
theorem dX11_notes_58 : decode cX11_notes 58 = .ok (.istore 5, 2) := by decide +kernel
theorem dX11_notes_60 : decode cX11_notes 60 = .ok (.aload_n 0, 1) := by decide +kernel
theorem dX11_notes_61 : decode cX11_notes 61 = .ok (.getfield 204, 3) := by decide +kernel
theorem dX11_notes_64 : decode cX11_notes 64 = .ok (.iload 5, 2) := by decide +kernel
theorem dX11_notes_66 : decode cX11_notes 66 = .ok (.aload_n 0, 1) := by decide +kernel
theorem dX11_notes_67 : decode cX11_notes 67 = .ok (.getfield 171, 3) := by decide +kernel
theorem dX11_notes_70 : decode cX11_notes 70 = .ok (.iastore, 1) := by decide +kernel
theorem dX11_notes_71 : decode cX11_notes 71 = .ok (.aload_n 0, 1) := by decide +kernel
theorem dX11_notes_72 : decode cX11_notes 72 = .ok (.getfield 204, 3) := by decide +kernel
theorem dX11_notes_75 : decode cX11_notes 75 = .ok (.iload 5, 2) := by decide +kernel
theorem dX11_notes_77 : decode cX11_notes 77 = .ok (.iconst 1, 1) := by decide +kernel
theorem dX11_notes_78 : decode cX11_notes 78 = .ok (.iadd, 1) := by decide +kernel
theorem dX11_notes_79 : decode cX11_notes 79 = .ok (.iload_n 1, 1) := by decide +kernel
theorem dX11_notes_80 : decode cX11_notes 80 = .ok (.iastore, 1) := by decide +kernel
theorem dX11_notes_81 : decode cX11_notes 81 = .ok (.aload_n 0, 1) := by decide +kernel
theorem dX11_notes_82 : decode cX11_notes 82 = .ok (.getfield 204, 3) := by decide +kernel
theorem dX11_notes_85 : decode cX11_notes 85 = .ok (.iload 5, 2) := by decide +kernel
theorem dX11_notes_87 : decode cX11_notes 87 = .ok (.iconst 2, 1) := by decide +kernel
theorem dX11_notes_88 : decode cX11_notes 88 = .ok (.iadd, 1) := by decide +kernel
theorem dX11_notes_89 : decode cX11_notes 89 = .ok (.iload_n 2, 1) := by decide +kernel
theorem dX11_notes_90 : decode cX11_notes 90 = .ok (.iastore, 1) := by decide +kernel
theorem dX11_notes_91 : decode cX11_notes 91 = .ok (.aload_n 0, 1) := by decide +kernel
theorem dX11_notes_92 : decode cX11_notes 92 = .ok (.getfield 204, 3) := by decide +kernel
theorem dX11_notes_95 : decode cX11_notes 95 = .ok (.iload 5, 2) := by decide +kernel
theorem dX11_notes_97 : decode cX11_notes 97 = .ok (.iconst 3, 1) := by decide +kernel
theorem dX11_notes_98 : decode cX11_notes 98 = .ok (.iadd, 1) := by decide +kernel
theorem dX11_notes_99 : decode cX11_notes 99 = .ok (.iload_n 3, 1) := by decide +kernel
theorem dX11_notes_100 : decode cX11_notes 100 = .ok (.iastore, 1) := by decide +kernel
theorem dX11_notes_101 : decode cX11_notes 101 = .ok (.aload_n 0, 1) := by decide +kernel
theorem dX11_notes_102 : decode cX11_notes 102 = .ok (.getfield 204, 3) := by decide +kernel
theorem dX11_notes_105 : decode cX11_notes 105 = .ok (.iload 5, 2) := by decide +kernel
theorem dX11_notes_107 : decode cX11_notes 107 = .ok (.iconst 4, 1) := by decide +kernel
theorem dX11_notes_108 : decode cX11_notes 108 = .ok (.iadd, 1) := by decide +kernel
theorem dX11_notes_109 : decode cX11_notes 109 = .ok (.iload 4, 2) := by decide +kernel
theorem dX11_notes_111 : decode cX11_notes 111 = .ok (.iastore, 1) := by decide +kernel
theorem dX11_notes_112 : decode cX11_notes 112 = .ok (.aload_n 0, 1) := by decide +kernel
theorem dX11_notes_113 : decode cX11_notes 113 = .ok (.dup, 1) := by decide +kernel
theorem dX11_notes_114 : decode cX11_notes 114 = .ok (.getfield 201, 3) := by decide +kernel
theorem dX11_notes_117 : decode cX11_notes 117 = .ok (.iconst 1, 1) := by decide +kernel
theorem dX11_notes_118 : decode cX11_notes 118 = .ok (.iadd, 1) := by decide +kernel
theorem dX11_notes_119 : decode cX11_notes 119 = .ok (.putfield 201, 3) := by decide +kernel
theorem dX11_notes_122 : decode cX11_notes 122 = .ok (.return_, 1) := by decide +kernel
theorem dX11_comes_0 : decode cX11_comes 0 = .ok (.aload_n 0, 1) := by decide +kernel
theorem dX11_comes_1 : decode cX11_comes 1 = .ok (.getfield 174, 3) := by decide +kernel
theorem dX11_comes_4 : decode cX11_comes 4 = .ok (.iload_n 1, 1) := by decide +kernel
theorem dX11_comes_5 : decode cX11_comes 5 = .ok (.dup2, 1) := by decide +kernel
theorem dX11_comes_6 : decode cX11_comes 6 = .ok (.iaload, 1) := by decide +kernel
theorem dX11_comes_7 : decode cX11_comes 7 = .ok (.iconst 1, 1) := by decide +kernel
theorem dX11_comes_8 : decode cX11_comes 8 = .ok (.iload_n 2, 1) := by decide +kernel
theorem dX11_comes_9 : decode cX11_comes 9 = .ok (.ishl, 1) := by decide +kernel
theorem dX11_comes_10 : decode cX11_comes 10 = .ok (.ior, 1) := by decide +kernel
theorem dX11_comes_11 : decode cX11_comes 11 = .ok (.iastore, 1) := by decide +kernel
theorem dX11_comes_12 : decode cX11_comes 12 = .ok (.aload_n 0, 1) := by decide +kernel
theorem dX11_comes_13 : decode cX11_comes 13 = .ok (.getfield 213, 3) := by decide +kernel
theorem dX11_comes_16 : decode cX11_comes 16 = .ok (.bipush 12, 2) := by decide +kernel
theorem dX11_comes_18 : decode cX11_comes 18 = .ok (.iload_n 1, 1) := by decide +kernel
theorem dX11_comes_19 : decode cX11_comes 19 = .ok (.imul, 1) := by decide +kernel
theorem dX11_comes_20 : decode cX11_comes 20 = .ok (.iload_n 2, 1) := by decide +kernel
theorem dX11_comes_21 : decode cX11_comes 21 = .ok (.iadd, 1) := by decide +kernel
theorem dX11_comes_22 : decode cX11_comes 22 = .ok (.aload_n 0, 1) := by decide +kernel
theorem dX11_comes_23 : decode cX11_comes 23 = .ok (.getfield 171, 3) := by decide +kernel
theorem dX11_comes_26 : decode cX11_comes 26 = .ok (.iastore, 1) := by decide +kernel
theorem dX11_comes_27 : decode cX11_comes 27 = .ok (.return_, 1) := by decide +kernel
theorem dX11_goes_0 : decode cX11_goes 0 = .ok (.aload_n 0, 1) := by decide +kernel
theorem dX11_goes_1 : decode cX11_goes 1 = .ok (.getfield 174, 3) := by decide +kernel
theorem dX11_goes_4 : decode cX11_goes 4 = .ok (.iload_n 1, 1) := by decide +kernel
theorem dX11_goes_5 : decode cX11_goes 5 = .ok (.dup2, 1) := by decide +kernel
theorem dX11_goes_6 : decode cX11_goes 6 = .ok (.iaload, 1) := by decide +kernel
theorem dX11_goes_7 : decode cX11_goes 7 = .ok (.iconst 1, 1) := by decide +kernel
theorem dX11_goes_8 : decode cX11_goes 8 = .ok (.iload_n 2, 1) := by decide +kernel
theorem dX11_goes_9 : decode cX11_goes 9 = .ok (.ishl, 1) := by decide +kernel
theorem dX11_goes_10 : decode cX11_goes 10 = .ok (.iconst (-1), 1) := by decide +kernel
theorem dX11_goes_11 : decode cX11_goes 11 = .ok (.ixor, 1) := by decide +kernel
theorem dX11_goes_12 : decode cX11_goes 12 = .ok (.iand, 1) := by decide +kernel
theorem dX11_goes_13 : decode cX11_goes 13 = .ok (.iastore, 1) := by decide +kernel
theorem dX11_goes_14 : decode cX11_goes 14 = .ok (.aload_n 0, 1) := by decide +kernel
theorem dX11_goes_15 : decode cX11_goes 15 = .ok (.getfield 207, 3) := by decide +kernel
theorem dX11_goes_18 : decode cX11_goes 18 = .ok (.bipush 80, 2) := by decide +kernel
theorem dX11_goes_20 : decode cX11_goes 20 = .ok (.if_icmp .ne 42, 3) := by decide +kernel
theorem dX11_goes_23 : decode cX11_goes 23 = .ok (.iconst 0, 1) := by decide +kernel
theorem dX11_goes_24 : decode cX11_goes 24 = .ok (.istore_n 3, 1) := by decide +kernel
theorem dX11_goes_25 : decode cX11_goes 25 = .ok (.iload_n 3, 1) := by decide +kernel
theorem dX11_goes_26 : decode cX11_goes 26 = .ok (.sipush 316, 3) := by decide +kernel
theorem dX11_goes_29 : decode cX11_goes 29 = .ok (.if_icmp .ge 23, 3) := by decide +kernel
theorem dX11_goes_32 : decode cX11_goes 32 = .ok (.aload_n 0, 1) := by decide +kernel
theorem dX11_goes_33 : decode cX11_goes 33 = .ok (.getfield 210, 3) := by decide +kernel
theorem dX11_goes_36 : decode cX11_goes 36 = .ok (.iload_n 3, 1) := by decide +kernel
theorem dX11_goes_37 : decode cX11_goes 37 = .ok (.aload_n 0, 1) := by decide +kernel
theorem dX11_goes_38 : decode cX11_goes 38 = .ok (.getfield 210, 3) := by decide +kernel
theorem dX11_goes_41 : decode cX11_goes 41 = .ok (.iload_n 3, 1) := by decide +kernel
theorem dX11_goes_42 : decode cX11_goes 42 = .ok (.iconst 4, 1) := by decide +kernel
theorem dX11_goes_43 : decode cX11_goes 43 = .ok (.iadd, 1) := by decide +kernel
theorem dX11_goes_44 : decode cX11_goes 44 = .ok (.iaload, 1) := by decide +kernel
theorem dX11_goes_45 : decode cX11_goes 45 = .ok (.iastore, 1) := by decide +kernel
theorem dX11_goes_46 : decode cX11_goes 46 = .ok (.iinc 3 1, 3) := by decide +kernel
theorem dX11_goes_49 : decode cX11_goes 49 = .ok (.goto (-24), 3) := by decide +kernel
theorem dX11_goes_52 : decode cX11_goes 52 = .ok (.aload_n 0, 1) := by decide +kernel
theorem dX11_goes_53 : decode cX11_goes 53 = .ok (.dup, 1) := by decide +kernel
theorem dX11_goes_54 : decode cX11_goes 54 = .ok (.getfield 207, 3) := by decide +kernel
theorem dX11_goes_57 : decode cX11_goes 57 = .ok (.iconst 1, 1) := by decide +kernel
theorem dX11_goes_58 : decode cX11_goes 58 = .ok (.isub, 1) := by decide +kernel
theorem dX11_goes_59 : decode cX11_goes 59 = .ok (.putfield 207, 3) := by decide +kernel
theorem dX11_goes_62 : decode cX11_goes 62 = .ok (.iconst 4, 1) := by decide +kernel
theorem dX11_goes_63 : decode cX11_goes 63 = .ok (.aload_n 0, 1) := by decide +kernel
theorem dX11_goes_64 : decode cX11_goes 64 = .ok (.getfield 207, 3) := by decide +kernel
theorem dX11_goes_67 : decode cX11_goes 67 = .ok (.imul, 1) := by decide +kernel
theorem dX11_goes_68 : decode cX11_goes 68 = .ok (.istore_n 3, 1) := by decide +kernel
theorem dX11_goes_69 : decode cX11_goes 69 = .ok (.aload_n 0, 1) := by decide +kernel
theorem dX11_goes_70 : decode cX11_goes 70 = .ok (.getfield 210, 3) := by decide +kernel
theorem dX11_goes_73 : decode cX11_goes 73 = .ok (.iload_n 3, 1) := by decide +kernel
theorem dX11_goes_74 : decode cX11_goes 74 = .ok (.iload_n 1, 1) := by decide +kernel
theorem dX11_goes_75 : decode cX11_goes 75 = .ok (.iastore, 1) := by decide +kernel
theorem dX11_goes_76 : decode cX11_goes 76 = .ok (.aload_n 0, 1) := by decide +kernel
theorem dX11_goes_77 : decode cX11_goes 77 = .ok (.getfield 210, 3) := by decide +kernel
theorem dX11_goes_80 : decode cX11_goes 80 = .ok (.iload_n 3, 1) := by decide +kernel
theorem dX11_goes_81 : decode cX11_goes 81 = .ok (.iconst 1, 1) := by decide +kernel
theorem dX11_goes_82 : decode cX11_goes 82 = .ok (.iadd, 1) := by decide +kernel
theorem dX11_goes_83 : decode cX11_goes 83 = .ok (.iload_n 2, 1) := by decide +kernel
theorem dX11_goes_84 : decode cX11_goes 84 = .ok (.iastore, 1) := by decide +kernel
theorem dX11_goes_85 : decode cX11_goes 85 = .ok (.aload_n 0, 1) := by decide +kernel
theorem dX11_goes_86 : decode cX11_goes 86 = .ok (.getfield 210, 3) := by decide +kernel
theorem dX11_goes_89 : decode cX11_goes 89 = .ok (.iload_n 3, 1) := by decide +kernel
theorem dX11_goes_90 : decode cX11_goes 90 = .ok (.iconst 2, 1) := by decide +kernel
theorem dX11_goes_91 : decode cX11_goes 91 = .ok (.iadd, 1) := by decide +kernel
theorem dX11_goes_92 : decode cX11_goes 92 = .ok (.aload_n 0, 1) := by decide +kernel
theorem dX11_goes_93 : decode cX11_goes 93 = .ok (.getfield 213, 3) := by decide +kernel
theorem dX11_goes_96 : decode cX11_goes 96 = .ok (.bipush 12, 2) := by decide +kernel
theorem dX11_goes_98 : decode cX11_goes 98 = .ok (.iload_n 1, 1) := by decide +kernel
theorem dX11_goes_99 : decode cX11_goes 99 = .ok (.imul, 1) := by decide +kernel
theorem dX11_goes_100 : decode cX11_goes 100 = .ok (.iload_n 2, 1) := by decide +kernel
theorem dX11_goes_101 : decode cX11_goes 101 = .ok (.iadd, 1) := by decide +kernel
theorem dX11_goes_102 : decode cX11_goes 102 = .ok (.iaload, 1) := by decide +kernel
theorem dX11_goes_103 : decode cX11_goes 103 = .ok (.iastore, 1) := by decide +kernel
theorem dX11_goes_104 : decode cX11_goes 104 = .ok (.aload_n 0, 1) := by decide +kernel
theorem dX11_goes_105 : decode cX11_goes 105 = .ok (.getfield 210, 3) := by decide +kernel
theorem dX11_goes_108 : decode cX11_goes 108 = .ok (.iload_n 3, 1) := by decide +kernel
theorem dX11_goes_109 : decode cX11_goes 109 = .ok (.iconst 3, 1) := by decide +kernel
theorem dX11_goes_110 : decode cX11_goes 110 = .ok (.iadd, 1) := by decide +kernel
theorem dX11_goes_111 : decode cX11_goes 111 = .ok (.aload_n 0, 1) := by decide +kernel
theorem dX11_goes_112 : decode cX11_goes 112 = .ok (.getfield 171, 3) := by decide +kernel
theorem dX11_goes_115 : decode cX11_goes 115 = .ok (.iastore, 1) := by decide +kernel
theorem dX11_goes_116 : decode cX11_goes 116 = .ok (.aload_n 0, 1) := by decide +kernel
theorem dX11_goes_117 : decode cX11_goes 117 = .ok (.dup, 1) := by decide +kernel
theorem dX11_goes_118 : decode cX11_goes 118 = .ok (.getfield 207, 3) := by decide +kernel
theorem dX11_goes_121 : decode cX11_goes 121 = .ok (.iconst 1, 1) := by decide +kernel
theorem dX11_goes_122 : decode cX11_goes 122 = .ok (.iadd, 1) := by decide +kernel
theorem dX11_goes_123 : decode cX11_goes 123 = .ok (.putfield 207, 3) := by decide +kernel
theorem dX11_goes_126 : decode cX11_goes 126 = .ok (.return_, 1) := by decide +kernel
theorem dX11_lays_0 : decode cX11_lays 0 = .ok (.iconst 0, 1) := by decide +kernel
theorem dX11_lays_1 : decode cX11_lays 1 = .ok (.istore_n 3, 1) := by decide +kernel
theorem dX11_lays_2 : decode cX11_lays 2 = .ok (.iload_n 3, 1) := by decide +kernel
theorem dX11_lays_3 : decode cX11_lays 3 = .ok (.bipush 26, 2) := by decide +kernel
theorem dX11_lays_5 : decode cX11_lays 5 = .ok (.if_icmp .ge 29, 3) := by decide +kernel
theorem dX11_lays_8 : decode cX11_lays 8 = .ok (.aload_n 0, 1) := by decide +kernel
theorem dX11_lays_9 : decode cX11_lays 9 = .ok (.getfield 177, 3) := by decide +kernel
theorem dX11_lays_12 : decode cX11_lays 12 = .ok (.bipush 26, 2) := by decide +kernel
theorem dX11_lays_14 : decode cX11_lays 14 = .ok (.iload_n 2, 1) := by decide +kernel
theorem dX11_lays_15 : decode cX11_lays 15 = .ok (.imul, 1) := by decide +kernel
theorem dX11_lays_16 : decode cX11_lays 16 = .ok (.iload_n 3, 1) := by decide +kernel
theorem dX11_lays_17 : decode cX11_lays 17 = .ok (.iadd, 1) := by decide +kernel
theorem dX11_lays_18 : decode cX11_lays 18 = .ok (.dup2, 1) := by decide +kernel
theorem dX11_lays_19 : decode cX11_lays 19 = .ok (.iaload, 1) := by decide +kernel
theorem dX11_lays_20 : decode cX11_lays 20 = .ok (.aload_n 0, 1) := by decide +kernel
theorem dX11_lays_21 : decode cX11_lays 21 = .ok (.iload_n 1, 1) := by decide +kernel
theorem dX11_lays_22 : decode cX11_lays 22 = .ok (.iload_n 3, 1) := by decide +kernel
theorem dX11_lays_23 : decode cX11_lays 23 = .ok (.invokevirtual 477, 3) := by decide +kernel
theorem dX11_lays_26 : decode cX11_lays 26 = .ok (.iadd, 1) := by decide +kernel
theorem dX11_lays_27 : decode cX11_lays 27 = .ok (.iastore, 1) := by decide +kernel
theorem dX11_lays_28 : decode cX11_lays 28 = .ok (.iinc 3 1, 3) := by decide +kernel
theorem dX11_lays_31 : decode cX11_lays 31 = .ok (.goto (-29), 3) := by decide +kernel
theorem dX11_lays_34 : decode cX11_lays 34 = .ok (.return_, 1) := by decide +kernel
theorem dX11_lacks_0 : decode cX11_lacks 0 = .ok (.aload_n 0, 1) := by decide +kernel
theorem dX11_lacks_1 : decode cX11_lacks 1 = .ok (.iload_n 2, 1) := by decide +kernel
theorem dX11_lacks_2 : decode cX11_lacks 2 = .ok (.iload_n 3, 1) := by decide +kernel
theorem dX11_lacks_3 : decode cX11_lacks 3 = .ok (.invokevirtual 477, 3) := by decide +kernel
theorem dX11_lacks_6 : decode cX11_lacks 6 = .ok (.aload_n 0, 1) := by decide +kernel
theorem dX11_lacks_7 : decode cX11_lacks 7 = .ok (.getfield 177, 3) := by decide +kernel
theorem dX11_lacks_10 : decode cX11_lacks 10 = .ok (.bipush 26, 2) := by decide +kernel
theorem dX11_lacks_12 : decode cX11_lacks 12 = .ok (.iload_n 1, 1) := by decide +kernel
theorem dX11_lacks_13 : decode cX11_lacks 13 = .ok (.imul, 1) := by decide +kernel
theorem dX11_lacks_14 : decode cX11_lacks 14 = .ok (.iload_n 3, 1) := by decide +kernel
theorem dX11_lacks_15 : decode cX11_lacks 15 = .ok (.iadd, 1) := by decide +kernel
theorem dX11_lacks_16 : decode cX11_lacks 16 = .ok (.iaload, 1) := by decide +kernel
theorem dX11_lacks_17 : decode cX11_lacks 17 = .ok (.isub, 1) := by decide +kernel
theorem dX11_lacks_18 : decode cX11_lacks 18 = .ok (.istore 4, 2) := by decide +kernel
theorem dX11_lacks_20 : decode cX11_lacks 20 = .ok (.iload 4, 2) := by decide +kernel
theorem dX11_lacks_22 : decode cX11_lacks 22 = .ok (.ifCond .ge 7, 3) := by decide +kernel
theorem dX11_lacks_25 : decode cX11_lacks 25 = .ok (.iconst 0, 1) := by decide +kernel
theorem dX11_lacks_26 : decode cX11_lacks 26 = .ok (.goto 5, 3) := by decide +kernel
theorem dX11_lacks_29 : decode cX11_lacks 29 = .ok (.iload 4, 2) := by decide +kernel
theorem dX11_lacks_31 : decode cX11_lacks 31 = .ok (.ireturn, 1) := by decide +kernel
theorem dX11_lackOunces_0 : decode cX11_lackOunces 0 = .ok (.iconst 0, 1) := by decide +kernel
theorem dX11_lackOunces_1 : decode cX11_lackOunces 1 = .ok (.istore_n 3, 1) := by decide +kernel
theorem dX11_lackOunces_2 : decode cX11_lackOunces 2 = .ok (.iconst 0, 1) := by decide +kernel
theorem dX11_lackOunces_3 : decode cX11_lackOunces 3 = .ok (.istore 4, 2) := by decide +kernel
theorem dX11_lackOunces_5 : decode cX11_lackOunces 5 = .ok (.iload 4, 2) := by decide +kernel
theorem dX11_lackOunces_7 : decode cX11_lackOunces 7 = .ok (.bipush 26, 2) := by decide +kernel
theorem dX11_lackOunces_9 : decode cX11_lackOunces 9 = .ok (.if_icmp .ge 27, 3) := by decide +kernel
theorem dX11_lackOunces_12 : decode cX11_lackOunces 12 = .ok (.iload_n 3, 1) := by decide +kernel
theorem dX11_lackOunces_13 : decode cX11_lackOunces 13 = .ok (.aload_n 0, 1) := by decide +kernel
theorem dX11_lackOunces_14 : decode cX11_lackOunces 14 = .ok (.iload_n 1, 1) := by decide +kernel
theorem dX11_lackOunces_15 : decode cX11_lackOunces 15 = .ok (.iload_n 2, 1) := by decide +kernel
theorem dX11_lackOunces_16 : decode cX11_lackOunces 16 = .ok (.iload 4, 2) := by decide +kernel
theorem dX11_lackOunces_18 : decode cX11_lackOunces 18 = .ok (.invokevirtual 507, 3) := by decide +kernel
theorem dX11_lackOunces_21 : decode cX11_lackOunces 21 = .ok (.aload_n 0, 1) := by decide +kernel
theorem dX11_lackOunces_22 : decode cX11_lackOunces 22 = .ok (.iload 4, 2) := by decide +kernel
theorem dX11_lackOunces_24 : decode cX11_lackOunces 24 = .ok (.invokevirtual 433, 3) := by decide +kernel
theorem dX11_lackOunces_27 : decode cX11_lackOunces 27 = .ok (.imul, 1) := by decide +kernel
theorem dX11_lackOunces_28 : decode cX11_lackOunces 28 = .ok (.iadd, 1) := by decide +kernel
theorem dX11_lackOunces_29 : decode cX11_lackOunces 29 = .ok (.istore_n 3, 1) := by decide +kernel
theorem dX11_lackOunces_30 : decode cX11_lackOunces 30 = .ok (.iinc 4 1, 3) := by decide +kernel
theorem dX11_lackOunces_33 : decode cX11_lackOunces 33 = .ok (.goto (-28), 3) := by decide +kernel
theorem dX11_lackOunces_36 : decode cX11_lackOunces 36 = .ok (.iload_n 3, 1) := by decide +kernel
theorem dX11_lackOunces_37 : decode cX11_lackOunces 37 = .ok (.ireturn, 1) := by decide +kernel
theorem dX11_canGain_0 : decode cX11_canGain 0 = .ok (.aload_n 0, 1) := by decide +kernel
theorem dX11_canGain_1 : decode cX11_canGain 1 = .ok (.iload_n 1, 1) := by decide +kernel
theorem dX11_canGain_2 : decode cX11_canGain 2 = .ok (.iload_n 2, 1) := by decide +kernel
theorem dX11_canGain_3 : decode cX11_canGain 3 = .ok (.invokevirtual 470, 3) := by decide +kernel
theorem dX11_canGain_6 : decode cX11_canGain 6 = .ok (.ifCond .eq 5, 3) := by decide +kernel
theorem dX11_canGain_9 : decode cX11_canGain 9 = .ok (.iconst 0, 1) := by decide +kernel
theorem dX11_canGain_10 : decode cX11_canGain 10 = .ok (.ireturn, 1) := by decide +kernel
theorem dX11_canGain_11 : decode cX11_canGain 11 = .ok (.iconst 0, 1) := by decide +kernel
theorem dX11_canGain_12 : decode cX11_canGain 12 = .ok (.istore_n 3, 1) := by decide +kernel
theorem dX11_canGain_13 : decode cX11_canGain 13 = .ok (.iload_n 3, 1) := by decide +kernel
theorem dX11_canGain_14 : decode cX11_canGain 14 = .ok (.bipush 26, 2) := by decide +kernel
theorem dX11_canGain_16 : decode cX11_canGain 16 = .ok (.if_icmp .ge 31, 3) := by decide +kernel
theorem dX11_canGain_19 : decode cX11_canGain 19 = .ok (.aload_n 0, 1) := by decide +kernel
theorem dX11_canGain_20 : decode cX11_canGain 20 = .ok (.iload_n 1, 1) := by decide +kernel
theorem dX11_canGain_21 : decode cX11_canGain 21 = .ok (.iload_n 2, 1) := by decide +kernel
theorem dX11_canGain_22 : decode cX11_canGain 22 = .ok (.iload_n 3, 1) := by decide +kernel
theorem dX11_canGain_23 : decode cX11_canGain 23 = .ok (.invokevirtual 507, 3) := by decide +kernel
theorem dX11_canGain_26 : decode cX11_canGain 26 = .ok (.aload_n 0, 1) := by decide +kernel
theorem dX11_canGain_27 : decode cX11_canGain 27 = .ok (.getfield 177, 3) := by decide +kernel
theorem dX11_canGain_30 : decode cX11_canGain 30 = .ok (.sipush 208, 3) := by decide +kernel
theorem dX11_canGain_33 : decode cX11_canGain 33 = .ok (.iload_n 3, 1) := by decide +kernel
theorem dX11_canGain_34 : decode cX11_canGain 34 = .ok (.iadd, 1) := by decide +kernel
theorem dX11_canGain_35 : decode cX11_canGain 35 = .ok (.iaload, 1) := by decide +kernel
theorem dX11_canGain_36 : decode cX11_canGain 36 = .ok (.if_icmp .le 5, 3) := by decide +kernel
theorem dX11_canGain_39 : decode cX11_canGain 39 = .ok (.iconst 0, 1) := by decide +kernel
theorem dX11_canGain_40 : decode cX11_canGain 40 = .ok (.ireturn, 1) := by decide +kernel
theorem dX11_canGain_41 : decode cX11_canGain 41 = .ok (.iinc 3 1, 3) := by decide +kernel
theorem dX11_canGain_44 : decode cX11_canGain 44 = .ok (.goto (-31), 3) := by decide +kernel
theorem dX11_canGain_47 : decode cX11_canGain 47 = .ok (.aload_n 0, 1) := by decide +kernel
theorem dX11_canGain_48 : decode cX11_canGain 48 = .ok (.iload_n 1, 1) := by decide +kernel
theorem dX11_canGain_49 : decode cX11_canGain 49 = .ok (.invokevirtual 489, 3) := by decide +kernel
theorem dX11_canGain_52 : decode cX11_canGain 52 = .ok (.aload_n 0, 1) := by decide +kernel
theorem dX11_canGain_53 : decode cX11_canGain 53 = .ok (.iload_n 1, 1) := by decide +kernel
theorem dX11_canGain_54 : decode cX11_canGain 54 = .ok (.iload_n 2, 1) := by decide +kernel
theorem dX11_canGain_55 : decode cX11_canGain 55 = .ok (.invokevirtual 511, 3) := by decide +kernel
theorem dX11_canGain_58 : decode cX11_canGain 58 = .ok (.iadd, 1) := by decide +kernel
theorem dX11_canGain_59 : decode cX11_canGain 59 = .ok (.aload_n 0, 1) := by decide +kernel
theorem dX11_canGain_60 : decode cX11_canGain 60 = .ok (.iload_n 1, 1) := by decide +kernel
theorem dX11_canGain_61 : decode cX11_canGain 61 = .ok (.invokevirtual 486, 3) := by decide +kernel
theorem dX11_canGain_64 : decode cX11_canGain 64 = .ok (.if_icmp .gt 7, 3) := by decide +kernel
theorem dX11_canGain_67 : decode cX11_canGain 67 = .ok (.iconst 1, 1) := by decide +kernel
theorem dX11_canGain_68 : decode cX11_canGain 68 = .ok (.goto 4, 3) := by decide +kernel
theorem dX11_canGain_71 : decode cX11_canGain 71 = .ok (.iconst 0, 1) := by decide +kernel
theorem dX11_canGain_72 : decode cX11_canGain 72 = .ok (.ireturn, 1) := by decide +kernel
theorem dX11_gains_0 : decode cX11_gains 0 = .ok (.aload_n 0, 1) := by decide +kernel
theorem dX11_gains_1 : decode cX11_gains 1 = .ok (.iload_n 1, 1) := by decide +kernel
theorem dX11_gains_2 : decode cX11_gains 2 = .ok (.iload_n 2, 1) := by decide +kernel
theorem dX11_gains_3 : decode cX11_gains 3 = .ok (.invokevirtual 511, 3) := by decide +kernel
theorem dX11_gains_6 : decode cX11_gains 6 = .ok (.istore_n 3, 1) := by decide +kernel
theorem dX11_gains_7 : decode cX11_gains 7 = .ok (.iconst 0, 1) := by decide +kernel
theorem dX11_gains_8 : decode cX11_gains 8 = .ok (.istore 4, 2) := by decide +kernel
theorem dX11_gains_10 : decode cX11_gains 10 = .ok (.iload 4, 2) := by decide +kernel
theorem dX11_gains_12 : decode cX11_gains 12 = .ok (.bipush 26, 2) := by decide +kernel
theorem dX11_gains_14 : decode cX11_gains 14 = .ok (.if_icmp .ge 60, 3) := by decide +kernel
theorem dX11_gains_17 : decode cX11_gains 17 = .ok (.aload_n 0, 1) := by decide +kernel
theorem dX11_gains_18 : decode cX11_gains 18 = .ok (.iload_n 1, 1) := by decide +kernel
theorem dX11_gains_19 : decode cX11_gains 19 = .ok (.iload_n 2, 1) := by decide +kernel
theorem dX11_gains_20 : decode cX11_gains 20 = .ok (.iload 4, 2) := by decide +kernel
theorem dX11_gains_22 : decode cX11_gains 22 = .ok (.invokevirtual 507, 3) := by decide +kernel
theorem dX11_gains_25 : decode cX11_gains 25 = .ok (.istore 5, 2) := by decide +kernel
theorem dX11_gains_27 : decode cX11_gains 27 = .ok (.aload_n 0, 1) := by decide +kernel
theorem dX11_gains_28 : decode cX11_gains 28 = .ok (.getfield 177, 3) := by decide +kernel
theorem dX11_gains_31 : decode cX11_gains 31 = .ok (.bipush 26, 2) := by decide +kernel
theorem dX11_gains_33 : decode cX11_gains 33 = .ok (.iload_n 1, 1) := by decide +kernel
theorem dX11_gains_34 : decode cX11_gains 34 = .ok (.imul, 1) := by decide +kernel
theorem dX11_gains_35 : decode cX11_gains 35 = .ok (.iload 4, 2) := by decide +kernel
theorem dX11_gains_37 : decode cX11_gains 37 = .ok (.iadd, 1) := by decide +kernel
theorem dX11_gains_38 : decode cX11_gains 38 = .ok (.dup2, 1) := by decide +kernel
theorem dX11_gains_39 : decode cX11_gains 39 = .ok (.iaload, 1) := by decide +kernel
theorem dX11_gains_40 : decode cX11_gains 40 = .ok (.aload_n 0, 1) := by decide +kernel
theorem dX11_gains_41 : decode cX11_gains 41 = .ok (.iload_n 2, 1) := by decide +kernel
theorem dX11_gains_42 : decode cX11_gains 42 = .ok (.iload 4, 2) := by decide +kernel
theorem dX11_gains_44 : decode cX11_gains 44 = .ok (.invokevirtual 477, 3) := by decide +kernel
theorem dX11_gains_47 : decode cX11_gains 47 = .ok (.iload 5, 2) := by decide +kernel
theorem dX11_gains_49 : decode cX11_gains 49 = .ok (.isub, 1) := by decide +kernel
theorem dX11_gains_50 : decode cX11_gains 50 = .ok (.isub, 1) := by decide +kernel
theorem dX11_gains_51 : decode cX11_gains 51 = .ok (.iastore, 1) := by decide +kernel
theorem dX11_gains_52 : decode cX11_gains 52 = .ok (.aload_n 0, 1) := by decide +kernel
theorem dX11_gains_53 : decode cX11_gains 53 = .ok (.getfield 177, 3) := by decide +kernel
theorem dX11_gains_56 : decode cX11_gains 56 = .ok (.sipush 208, 3) := by decide +kernel
theorem dX11_gains_59 : decode cX11_gains 59 = .ok (.iload 4, 2) := by decide +kernel
theorem dX11_gains_61 : decode cX11_gains 61 = .ok (.iadd, 1) := by decide +kernel
theorem dX11_gains_62 : decode cX11_gains 62 = .ok (.dup2, 1) := by decide +kernel
theorem dX11_gains_63 : decode cX11_gains 63 = .ok (.iaload, 1) := by decide +kernel
theorem dX11_gains_64 : decode cX11_gains 64 = .ok (.iload 5, 2) := by decide +kernel
theorem dX11_gains_66 : decode cX11_gains 66 = .ok (.isub, 1) := by decide +kernel
theorem dX11_gains_67 : decode cX11_gains 67 = .ok (.iastore, 1) := by decide +kernel
theorem dX11_gains_68 : decode cX11_gains 68 = .ok (.iinc 4 1, 3) := by decide +kernel
theorem dX11_gains_71 : decode cX11_gains 71 = .ok (.goto (-61), 3) := by decide +kernel
theorem dX11_gains_74 : decode cX11_gains 74 = .ok (.aload_n 0, 1) := by decide +kernel
theorem dX11_gains_75 : decode cX11_gains 75 = .ok (.iload_n 1, 1) := by decide +kernel
theorem dX11_gains_76 : decode cX11_gains 76 = .ok (.iload_n 2, 1) := by decide +kernel
theorem dX11_gains_77 : decode cX11_gains 77 = .ok (.invokevirtual 514, 3) := by decide +kernel
theorem dX11_gains_80 : decode cX11_gains 80 = .ok (.aload_n 0, 1) := by decide +kernel
theorem dX11_gains_81 : decode cX11_gains 81 = .ok (.iconst 0, 1) := by decide +kernel
theorem dX11_gains_82 : decode cX11_gains 82 = .ok (.iload_n 1, 1) := by decide +kernel
theorem dX11_gains_83 : decode cX11_gains 83 = .ok (.iconst (-1), 1) := by decide +kernel
theorem dX11_gains_84 : decode cX11_gains 84 = .ok (.iload_n 3, 1) := by decide +kernel
theorem dX11_gains_85 : decode cX11_gains 85 = .ok (.invokevirtual 517, 3) := by decide +kernel
theorem dX11_gains_88 : decode cX11_gains 88 = .ok (.return_, 1) := by decide +kernel
theorem dX11_gain_0 : decode cX11_gain 0 = .ok (.aload_n 0, 1) := by decide +kernel
theorem dX11_gain_1 : decode cX11_gain 1 = .ok (.iload_n 1, 1) := by decide +kernel
theorem dX11_gain_2 : decode cX11_gain 2 = .ok (.invokevirtual 483, 3) := by decide +kernel
theorem dX11_gain_5 : decode cX11_gain 5 = .ok (.ifCond .eq 20, 3) := by decide +kernel
theorem dX11_gain_8 : decode cX11_gain 8 = .ok (.aload_n 0, 1) := by decide +kernel
theorem dX11_gain_9 : decode cX11_gain 9 = .ok (.iload_n 2, 1) := by decide +kernel
theorem dX11_gain_10 : decode cX11_gain 10 = .ok (.invokevirtual 467, 3) := by decide +kernel
theorem dX11_gain_13 : decode cX11_gain 13 = .ok (.ifCond .eq 12, 3) := by decide +kernel
theorem dX11_gain_16 : decode cX11_gain 16 = .ok (.aload_n 0, 1) := by decide +kernel
theorem dX11_gain_17 : decode cX11_gain 17 = .ok (.iload_n 1, 1) := by decide +kernel
theorem dX11_gain_18 : decode cX11_gain 18 = .ok (.iload_n 2, 1) := by decide +kernel
theorem dX11_gain_19 : decode cX11_gain 19 = .ok (.invokevirtual 521, 3) := by decide +kernel
theorem dX11_gain_22 : decode cX11_gain 22 = .ok (.ifCond .ne 9, 3) := by decide +kernel
theorem dX11_gain_25 : decode cX11_gain 25 = .ok (.aload_n 0, 1) := by decide +kernel
theorem dX11_gain_26 : decode cX11_gain 26 = .ok (.iconst 2, 1) := by decide +kernel
theorem dX11_gain_27 : decode cX11_gain 27 = .ok (.invokevirtual 234, 3) := by decide +kernel
theorem dX11_gain_30 : decode cX11_gain 30 = .ok (.ireturn, 1) := by decide +kernel
theorem dX11_gain_31 : decode cX11_gain 31 = .ok (.aload_n 0, 1) := by decide +kernel
theorem dX11_gain_32 : decode cX11_gain 32 = .ok (.iload_n 1, 1) := by decide +kernel
theorem dX11_gain_33 : decode cX11_gain 33 = .ok (.iload_n 2, 1) := by decide +kernel
theorem dX11_gain_34 : decode cX11_gain 34 = .ok (.invokevirtual 524, 3) := by decide +kernel
theorem dX11_gain_37 : decode cX11_gain 37 = .ok (.aload_n 0, 1) := by decide +kernel
theorem dX11_gain_38 : decode cX11_gain 38 = .ok (.iload_n 1, 1) := by decide +kernel
theorem dX11_gain_39 : decode cX11_gain 39 = .ok (.invokevirtual 489, 3) := by decide +kernel
theorem dX11_gain_42 : decode cX11_gain 42 = .ok (.ireturn, 1) := by decide +kernel
theorem dX11_sheds_0 : decode cX11_sheds 0 = .ok (.aload_n 0, 1) := by decide +kernel
theorem dX11_sheds_1 : decode cX11_sheds 1 = .ok (.iload_n 1, 1) := by decide +kernel
theorem dX11_sheds_2 : decode cX11_sheds 2 = .ok (.iload_n 2, 1) := by decide +kernel
theorem dX11_sheds_3 : decode cX11_sheds 3 = .ok (.invokevirtual 527, 3) := by decide +kernel
theorem dX11_sheds_6 : decode cX11_sheds 6 = .ok (.aload_n 0, 1) := by decide +kernel
theorem dX11_sheds_7 : decode cX11_sheds 7 = .ok (.iload_n 2, 1) := by decide +kernel
theorem dX11_sheds_8 : decode cX11_sheds 8 = .ok (.bipush 8, 2) := by decide +kernel
theorem dX11_sheds_10 : decode cX11_sheds 10 = .ok (.invokevirtual 530, 3) := by decide +kernel
theorem dX11_sheds_13 : decode cX11_sheds 13 = .ok (.aload_n 0, 1) := by decide +kernel
theorem dX11_sheds_14 : decode cX11_sheds 14 = .ok (.iconst 1, 1) := by decide +kernel
theorem dX11_sheds_15 : decode cX11_sheds 15 = .ok (.iload_n 1, 1) := by decide +kernel
theorem dX11_sheds_16 : decode cX11_sheds 16 = .ok (.iconst (-1), 1) := by decide +kernel
theorem dX11_sheds_17 : decode cX11_sheds 17 = .ok (.aload_n 0, 1) := by decide +kernel
theorem dX11_sheds_18 : decode cX11_sheds 18 = .ok (.iload_n 2, 1) := by decide +kernel
theorem dX11_sheds_19 : decode cX11_sheds 19 = .ok (.invokevirtual 439, 3) := by decide +kernel
theorem dX11_sheds_22 : decode cX11_sheds 22 = .ok (.invokevirtual 517, 3) := by decide +kernel
theorem dX11_sheds_25 : decode cX11_sheds 25 = .ok (.return_, 1) := by decide +kernel
theorem dX11_shed_0 : decode cX11_shed 0 = .ok (.aload_n 0, 1) := by decide +kernel
theorem dX11_shed_1 : decode cX11_shed 1 = .ok (.iload_n 1, 1) := by decide +kernel
theorem dX11_shed_2 : decode cX11_shed 2 = .ok (.invokevirtual 483, 3) := by decide +kernel
theorem dX11_shed_5 : decode cX11_shed 5 = .ok (.ifCond .eq 20, 3) := by decide +kernel
theorem dX11_shed_8 : decode cX11_shed 8 = .ok (.aload_n 0, 1) := by decide +kernel
theorem dX11_shed_9 : decode cX11_shed 9 = .ok (.iload_n 2, 1) := by decide +kernel
theorem dX11_shed_10 : decode cX11_shed 10 = .ok (.invokevirtual 467, 3) := by decide +kernel
theorem dX11_shed_13 : decode cX11_shed 13 = .ok (.ifCond .eq 12, 3) := by decide +kernel
theorem dX11_shed_16 : decode cX11_shed 16 = .ok (.aload_n 0, 1) := by decide +kernel
theorem dX11_shed_17 : decode cX11_shed 17 = .ok (.iload_n 1, 1) := by decide +kernel
theorem dX11_shed_18 : decode cX11_shed 18 = .ok (.iload_n 2, 1) := by decide +kernel
theorem dX11_shed_19 : decode cX11_shed 19 = .ok (.invokevirtual 470, 3) := by decide +kernel
theorem dX11_shed_22 : decode cX11_shed 22 = .ok (.ifCond .ne 9, 3) := by decide +kernel
theorem dX11_shed_25 : decode cX11_shed 25 = .ok (.aload_n 0, 1) := by decide +kernel
theorem dX11_shed_26 : decode cX11_shed 26 = .ok (.iconst 2, 1) := by decide +kernel
theorem dX11_shed_27 : decode cX11_shed 27 = .ok (.invokevirtual 234, 3) := by decide +kernel
theorem dX11_shed_30 : decode cX11_shed 30 = .ok (.ireturn, 1) := by decide +kernel
theorem dX11_shed_31 : decode cX11_shed 31 = .ok (.aload_n 0, 1) := by decide +kernel
theorem dX11_shed_32 : decode cX11_shed 32 = .ok (.iload_n 1, 1) := by decide +kernel
theorem dX11_shed_33 : decode cX11_shed 33 = .ok (.iload_n 2, 1) := by decide +kernel
theorem dX11_shed_34 : decode cX11_shed 34 = .ok (.invokevirtual 533, 3) := by decide +kernel
theorem dX11_shed_37 : decode cX11_shed 37 = .ok (.aload_n 0, 1) := by decide +kernel
theorem dX11_shed_38 : decode cX11_shed 38 = .ok (.iload_n 1, 1) := by decide +kernel
theorem dX11_shed_39 : decode cX11_shed 39 = .ok (.invokevirtual 489, 3) := by decide +kernel
theorem dX11_shed_42 : decode cX11_shed 42 = .ok (.ireturn, 1) := by decide +kernel
theorem dX11_unpicked_0 : decode cX11_unpicked 0 = .ok (.iconst 0, 1) := by decide +kernel
theorem dX11_unpicked_1 : decode cX11_unpicked 1 = .ok (.istore_n 3, 1) := by decide +kernel
theorem dX11_unpicked_2 : decode cX11_unpicked 2 = .ok (.iload_n 3, 1) := by decide +kernel
theorem dX11_unpicked_3 : decode cX11_unpicked 3 = .ok (.aload_n 0, 1) := by decide +kernel
theorem dX11_unpicked_4 : decode cX11_unpicked 4 = .ok (.getfield 73, 3) := by decide +kernel
theorem dX11_unpicked_7 : decode cX11_unpicked 7 = .ok (.aload_n 0, 1) := by decide +kernel
theorem dX11_unpicked_8 : decode cX11_unpicked 8 = .ok (.getfield 48, 3) := by decide +kernel
theorem dX11_unpicked_11 : decode cX11_unpicked 11 = .ok (.iaload, 1) := by decide +kernel
theorem dX11_unpicked_12 : decode cX11_unpicked 12 = .ok (.if_icmp .ge 29, 3) := by decide +kernel
theorem dX11_unpicked_15 : decode cX11_unpicked 15 = .ok (.aload_n 0, 1) := by decide +kernel
theorem dX11_unpicked_16 : decode cX11_unpicked 16 = .ok (.iload_n 1, 1) := by decide +kernel
theorem dX11_unpicked_17 : decode cX11_unpicked 17 = .ok (.iload_n 3, 1) := by decide +kernel
theorem dX11_unpicked_18 : decode cX11_unpicked 18 = .ok (.invokevirtual 470, 3) := by decide +kernel
theorem dX11_unpicked_21 : decode cX11_unpicked 21 = .ok (.ifCond .eq 14, 3) := by decide +kernel
theorem dX11_unpicked_24 : decode cX11_unpicked 24 = .ok (.aload_n 0, 1) := by decide +kernel
theorem dX11_unpicked_25 : decode cX11_unpicked 25 = .ok (.iload_n 3, 1) := by decide +kernel
theorem dX11_unpicked_26 : decode cX11_unpicked 26 = .ok (.iload_n 2, 1) := by decide +kernel
theorem dX11_unpicked_27 : decode cX11_unpicked 27 = .ok (.invokevirtual 477, 3) := by decide +kernel
theorem dX11_unpicked_30 : decode cX11_unpicked 30 = .ok (.ifCond .le 5, 3) := by decide +kernel
theorem dX11_unpicked_33 : decode cX11_unpicked 33 = .ok (.iload_n 3, 1) := by decide +kernel
theorem dX11_unpicked_34 : decode cX11_unpicked 34 = .ok (.ireturn, 1) := by decide +kernel
theorem dX11_unpicked_35 : decode cX11_unpicked 35 = .ok (.iinc 3 1, 3) := by decide +kernel
theorem dX11_unpicked_38 : decode cX11_unpicked 38 = .ok (.goto (-36), 3) := by decide +kernel
theorem dX11_unpicked_41 : decode cX11_unpicked 41 = .ok (.iconst (-1), 1) := by decide +kernel
theorem dX11_unpicked_42 : decode cX11_unpicked 42 = .ok (.ireturn, 1) := by decide +kernel
theorem dX11_steal_0 : decode cX11_steal 0 = .ok (.aload_n 0, 1) := by decide +kernel
theorem dX11_steal_1 : decode cX11_steal 1 = .ok (.iload_n 1, 1) := by decide +kernel
theorem dX11_steal_2 : decode cX11_steal 2 = .ok (.invokevirtual 483, 3) := by decide +kernel
theorem dX11_steal_5 : decode cX11_steal 5 = .ok (.ifCond .eq 23, 3) := by decide +kernel
theorem dX11_steal_8 : decode cX11_steal 8 = .ok (.aload_n 0, 1) := by decide +kernel
theorem dX11_steal_9 : decode cX11_steal 9 = .ok (.iload_n 2, 1) := by decide +kernel
theorem dX11_steal_10 : decode cX11_steal 10 = .ok (.invokevirtual 483, 3) := by decide +kernel
theorem dX11_steal_13 : decode cX11_steal 13 = .ok (.ifCond .eq 15, 3) := by decide +kernel
theorem dX11_steal_16 : decode cX11_steal 16 = .ok (.iload_n 1, 1) := by decide +kernel
theorem dX11_steal_17 : decode cX11_steal 17 = .ok (.iload_n 2, 1) := by decide +kernel
theorem dX11_steal_18 : decode cX11_steal 18 = .ok (.if_icmp .eq 10, 3) := by decide +kernel
theorem dX11_steal_21 : decode cX11_steal 21 = .ok (.iload_n 3, 1) := by decide +kernel
theorem dX11_steal_22 : decode cX11_steal 22 = .ok (.invokestatic 464, 3) := by decide +kernel
theorem dX11_steal_25 : decode cX11_steal 25 = .ok (.ifCond .ne 17, 3) := by decide +kernel
theorem dX11_steal_28 : decode cX11_steal 28 = .ok (.aload_n 0, 1) := by decide +kernel
theorem dX11_steal_29 : decode cX11_steal 29 = .ok (.iconst 2, 1) := by decide +kernel
theorem dX11_steal_30 : decode cX11_steal 30 = .ok (.invokevirtual 234, 3) := by decide +kernel
theorem dX11_steal_33 : decode cX11_steal 33 = .ok (.ifCond .lt 7, 3) := by decide +kernel
theorem dX11_steal_36 : decode cX11_steal 36 = .ok (.iconst 1, 1) := by decide +kernel
theorem dX11_steal_37 : decode cX11_steal 37 = .ok (.goto 4, 3) := by decide +kernel
theorem dX11_steal_40 : decode cX11_steal 40 = .ok (.iconst 0, 1) := by decide +kernel
theorem dX11_steal_41 : decode cX11_steal 41 = .ok (.ireturn, 1) := by decide +kernel
theorem dX11_steal_42 : decode cX11_steal 42 = .ok (.iload_n 3, 1) := by decide +kernel
theorem dX11_steal_43 : decode cX11_steal 43 = .ok (.bipush 97, 2) := by decide +kernel
theorem dX11_steal_45 : decode cX11_steal 45 = .ok (.isub, 1) := by decide +kernel
theorem dX11_steal_46 : decode cX11_steal 46 = .ok (.istore 4, 2) := by decide +kernel
theorem dX11_steal_48 : decode cX11_steal 48 = .ok (.aload_n 0, 1) := by decide +kernel
theorem dX11_steal_49 : decode cX11_steal 49 = .ok (.getfield 177, 3) := by decide +kernel
theorem dX11_steal_52 : decode cX11_steal 52 = .ok (.bipush 26, 2) := by decide +kernel
theorem dX11_steal_54 : decode cX11_steal 54 = .ok (.iload_n 2, 1) := by decide +kernel
theorem dX11_steal_55 : decode cX11_steal 55 = .ok (.imul, 1) := by decide +kernel
theorem dX11_steal_56 : decode cX11_steal 56 = .ok (.iload 4, 2) := by decide +kernel
theorem dX11_steal_58 : decode cX11_steal 58 = .ok (.iadd, 1) := by decide +kernel
theorem dX11_steal_59 : decode cX11_steal 59 = .ok (.iaload, 1) := by decide +kernel
theorem dX11_steal_60 : decode cX11_steal 60 = .ok (.ifCond .ne 46, 3) := by decide +kernel
theorem dX11_steal_63 : decode cX11_steal 63 = .ok (.aload_n 0, 1) := by decide +kernel
theorem dX11_steal_64 : decode cX11_steal 64 = .ok (.iload_n 2, 1) := by decide +kernel
theorem dX11_steal_65 : decode cX11_steal 65 = .ok (.iload 4, 2) := by decide +kernel
theorem dX11_steal_67 : decode cX11_steal 67 = .ok (.invokevirtual 536, 3) := by decide +kernel
theorem dX11_steal_70 : decode cX11_steal 70 = .ok (.istore 5, 2) := by decide +kernel
theorem dX11_steal_72 : decode cX11_steal 72 = .ok (.iload 5, 2) := by decide +kernel
theorem dX11_steal_74 : decode cX11_steal 74 = .ok (.iconst (-1), 1) := by decide +kernel
theorem dX11_steal_75 : decode cX11_steal 75 = .ok (.if_icmp .ne 17, 3) := by decide +kernel
theorem dX11_steal_78 : decode cX11_steal 78 = .ok (.aload_n 0, 1) := by decide +kernel
theorem dX11_steal_79 : decode cX11_steal 79 = .ok (.iconst 2, 1) := by decide +kernel
theorem dX11_steal_80 : decode cX11_steal 80 = .ok (.invokevirtual 234, 3) := by decide +kernel
theorem dX11_steal_83 : decode cX11_steal 83 = .ok (.ifCond .lt 7, 3) := by decide +kernel
theorem dX11_steal_86 : decode cX11_steal 86 = .ok (.iconst 1, 1) := by decide +kernel
theorem dX11_steal_87 : decode cX11_steal 87 = .ok (.goto 4, 3) := by decide +kernel
theorem dX11_steal_90 : decode cX11_steal 90 = .ok (.iconst 0, 1) := by decide +kernel
theorem dX11_steal_91 : decode cX11_steal 91 = .ok (.ireturn, 1) := by decide +kernel
theorem dX11_steal_92 : decode cX11_steal 92 = .ok (.aload_n 0, 1) := by decide +kernel
theorem dX11_steal_93 : decode cX11_steal 93 = .ok (.iload_n 2, 1) := by decide +kernel
theorem dX11_steal_94 : decode cX11_steal 94 = .ok (.iload 5, 2) := by decide +kernel
theorem dX11_steal_96 : decode cX11_steal 96 = .ok (.invokevirtual 527, 3) := by decide +kernel
theorem dX11_steal_99 : decode cX11_steal 99 = .ok (.aload_n 0, 1) := by decide +kernel
theorem dX11_steal_100 : decode cX11_steal 100 = .ok (.iload 5, 2) := by decide +kernel
theorem dX11_steal_102 : decode cX11_steal 102 = .ok (.iload_n 2, 1) := by decide +kernel
theorem dX11_steal_103 : decode cX11_steal 103 = .ok (.invokevirtual 530, 3) := by decide +kernel
theorem dX11_steal_106 : decode cX11_steal 106 = .ok (.aload_n 0, 1) := by decide +kernel
theorem dX11_steal_107 : decode cX11_steal 107 = .ok (.getfield 177, 3) := by decide +kernel
theorem dX11_steal_110 : decode cX11_steal 110 = .ok (.bipush 26, 2) := by decide +kernel
theorem dX11_steal_112 : decode cX11_steal 112 = .ok (.iload_n 2, 1) := by decide +kernel
theorem dX11_steal_113 : decode cX11_steal 113 = .ok (.imul, 1) := by decide +kernel
theorem dX11_steal_114 : decode cX11_steal 114 = .ok (.iload 4, 2) := by decide +kernel
theorem dX11_steal_116 : decode cX11_steal 116 = .ok (.iadd, 1) := by decide +kernel
theorem dX11_steal_117 : decode cX11_steal 117 = .ok (.dup2, 1) := by decide +kernel
theorem dX11_steal_118 : decode cX11_steal 118 = .ok (.iaload, 1) := by decide +kernel
theorem dX11_steal_119 : decode cX11_steal 119 = .ok (.iconst 1, 1) := by decide +kernel
theorem dX11_steal_120 : decode cX11_steal 120 = .ok (.isub, 1) := by decide +kernel
theorem dX11_steal_121 : decode cX11_steal 121 = .ok (.iastore, 1) := by decide +kernel
theorem dX11_steal_122 : decode cX11_steal 122 = .ok (.aload_n 0, 1) := by decide +kernel
theorem dX11_steal_123 : decode cX11_steal 123 = .ok (.getfield 177, 3) := by decide +kernel
theorem dX11_steal_126 : decode cX11_steal 126 = .ok (.bipush 26, 2) := by decide +kernel
theorem dX11_steal_128 : decode cX11_steal 128 = .ok (.iload_n 1, 1) := by decide +kernel
theorem dX11_steal_129 : decode cX11_steal 129 = .ok (.imul, 1) := by decide +kernel
theorem dX11_steal_130 : decode cX11_steal 130 = .ok (.iload 4, 2) := by decide +kernel
theorem dX11_steal_132 : decode cX11_steal 132 = .ok (.iadd, 1) := by decide +kernel
theorem dX11_steal_133 : decode cX11_steal 133 = .ok (.dup2, 1) := by decide +kernel
theorem dX11_steal_134 : decode cX11_steal 134 = .ok (.iaload, 1) := by decide +kernel
theorem dX11_steal_135 : decode cX11_steal 135 = .ok (.iconst 1, 1) := by decide +kernel
theorem dX11_steal_136 : decode cX11_steal 136 = .ok (.iadd, 1) := by decide +kernel
theorem dX11_steal_137 : decode cX11_steal 137 = .ok (.iastore, 1) := by decide +kernel
theorem dX11_steal_138 : decode cX11_steal 138 = .ok (.aload_n 0, 1) := by decide +kernel
theorem dX11_steal_139 : decode cX11_steal 139 = .ok (.iconst 2, 1) := by decide +kernel
theorem dX11_steal_140 : decode cX11_steal 140 = .ok (.iload_n 1, 1) := by decide +kernel
theorem dX11_steal_141 : decode cX11_steal 141 = .ok (.iload_n 2, 1) := by decide +kernel
theorem dX11_steal_142 : decode cX11_steal 142 = .ok (.aload_n 0, 1) := by decide +kernel
theorem dX11_steal_143 : decode cX11_steal 143 = .ok (.iload 4, 2) := by decide +kernel
theorem dX11_steal_145 : decode cX11_steal 145 = .ok (.invokevirtual 433, 3) := by decide +kernel
theorem dX11_steal_148 : decode cX11_steal 148 = .ok (.invokevirtual 517, 3) := by decide +kernel
theorem dX11_steal_151 : decode cX11_steal 151 = .ok (.iconst 1, 1) := by decide +kernel
theorem dX11_steal_152 : decode cX11_steal 152 = .ok (.ireturn, 1) := by decide +kernel
theorem dX11_trade_0 : decode cX11_trade 0 = .ok (.aload_n 0, 1) := by decide +kernel
theorem dX11_trade_1 : decode cX11_trade 1 = .ok (.iload_n 1, 1) := by decide +kernel
theorem dX11_trade_2 : decode cX11_trade 2 = .ok (.invokevirtual 483, 3) := by decide +kernel
theorem dX11_trade_5 : decode cX11_trade 5 = .ok (.ifCond .eq 37, 3) := by decide +kernel
theorem dX11_trade_8 : decode cX11_trade 8 = .ok (.aload_n 0, 1) := by decide +kernel
theorem dX11_trade_9 : decode cX11_trade 9 = .ok (.iload_n 3, 1) := by decide +kernel
theorem dX11_trade_10 : decode cX11_trade 10 = .ok (.invokevirtual 483, 3) := by decide +kernel
theorem dX11_trade_13 : decode cX11_trade 13 = .ok (.ifCond .eq 29, 3) := by decide +kernel
theorem dX11_trade_16 : decode cX11_trade 16 = .ok (.iload_n 1, 1) := by decide +kernel
theorem dX11_trade_17 : decode cX11_trade 17 = .ok (.iload_n 3, 1) := by decide +kernel
theorem dX11_trade_18 : decode cX11_trade 18 = .ok (.if_icmp .eq 24, 3) := by decide +kernel
theorem dX11_trade_21 : decode cX11_trade 21 = .ok (.iload_n 2, 1) := by decide +kernel
theorem dX11_trade_22 : decode cX11_trade 22 = .ok (.invokestatic 464, 3) := by decide +kernel
theorem dX11_trade_25 : decode cX11_trade 25 = .ok (.ifCond .eq 17, 3) := by decide +kernel
theorem dX11_trade_28 : decode cX11_trade 28 = .ok (.iload 4, 2) := by decide +kernel
theorem dX11_trade_30 : decode cX11_trade 30 = .ok (.invokestatic 464, 3) := by decide +kernel
theorem dX11_trade_33 : decode cX11_trade 33 = .ok (.ifCond .eq 9, 3) := by decide +kernel
theorem dX11_trade_36 : decode cX11_trade 36 = .ok (.iload_n 2, 1) := by decide +kernel
theorem dX11_trade_37 : decode cX11_trade 37 = .ok (.iload 4, 2) := by decide +kernel
theorem dX11_trade_39 : decode cX11_trade 39 = .ok (.if_icmp .ne 17, 3) := by decide +kernel
theorem dX11_trade_42 : decode cX11_trade 42 = .ok (.aload_n 0, 1) := by decide +kernel
theorem dX11_trade_43 : decode cX11_trade 43 = .ok (.iconst 2, 1) := by decide +kernel
theorem dX11_trade_44 : decode cX11_trade 44 = .ok (.invokevirtual 234, 3) := by decide +kernel
theorem dX11_trade_47 : decode cX11_trade 47 = .ok (.ifCond .lt 7, 3) := by decide +kernel
theorem dX11_trade_50 : decode cX11_trade 50 = .ok (.iconst 1, 1) := by decide +kernel
theorem dX11_trade_51 : decode cX11_trade 51 = .ok (.goto 4, 3) := by decide +kernel
theorem dX11_trade_54 : decode cX11_trade 54 = .ok (.iconst 0, 1) := by decide +kernel
theorem dX11_trade_55 : decode cX11_trade 55 = .ok (.ireturn, 1) := by decide +kernel
theorem dX11_trade_56 : decode cX11_trade 56 = .ok (.iload_n 2, 1) := by decide +kernel
theorem dX11_trade_57 : decode cX11_trade 57 = .ok (.bipush 97, 2) := by decide +kernel
theorem dX11_trade_59 : decode cX11_trade 59 = .ok (.isub, 1) := by decide +kernel
theorem dX11_trade_60 : decode cX11_trade 60 = .ok (.istore 5, 2) := by decide +kernel
theorem dX11_trade_62 : decode cX11_trade 62 = .ok (.iload 4, 2) := by decide +kernel
theorem dX11_trade_64 : decode cX11_trade 64 = .ok (.bipush 97, 2) := by decide +kernel
theorem dX11_trade_66 : decode cX11_trade 66 = .ok (.isub, 1) := by decide +kernel
theorem dX11_trade_67 : decode cX11_trade 67 = .ok (.istore 6, 2) := by decide +kernel
theorem dX11_trade_69 : decode cX11_trade 69 = .ok (.aload_n 0, 1) := by decide +kernel
theorem dX11_trade_70 : decode cX11_trade 70 = .ok (.getfield 177, 3) := by decide +kernel
theorem dX11_trade_73 : decode cX11_trade 73 = .ok (.bipush 26, 2) := by decide +kernel
theorem dX11_trade_75 : decode cX11_trade 75 = .ok (.iload_n 1, 1) := by decide +kernel
theorem dX11_trade_76 : decode cX11_trade 76 = .ok (.imul, 1) := by decide +kernel
theorem dX11_trade_77 : decode cX11_trade 77 = .ok (.iload 5, 2) := by decide +kernel
theorem dX11_trade_79 : decode cX11_trade 79 = .ok (.iadd, 1) := by decide +kernel
theorem dX11_trade_80 : decode cX11_trade 80 = .ok (.iaload, 1) := by decide +kernel
theorem dX11_trade_81 : decode cX11_trade 81 = .ok (.ifCond .eq 18, 3) := by decide +kernel
theorem dX11_trade_84 : decode cX11_trade 84 = .ok (.aload_n 0, 1) := by decide +kernel
theorem dX11_trade_85 : decode cX11_trade 85 = .ok (.getfield 177, 3) := by decide +kernel
theorem dX11_trade_88 : decode cX11_trade 88 = .ok (.bipush 26, 2) := by decide +kernel
theorem dX11_trade_90 : decode cX11_trade 90 = .ok (.iload_n 3, 1) := by decide +kernel
theorem dX11_trade_91 : decode cX11_trade 91 = .ok (.imul, 1) := by decide +kernel
theorem dX11_trade_92 : decode cX11_trade 92 = .ok (.iload 6, 2) := by decide +kernel
theorem dX11_trade_94 : decode cX11_trade 94 = .ok (.iadd, 1) := by decide +kernel
theorem dX11_trade_95 : decode cX11_trade 95 = .ok (.iaload, 1) := by decide +kernel
theorem dX11_trade_96 : decode cX11_trade 96 = .ok (.ifCond .ne 17, 3) := by decide +kernel
theorem dX11_trade_99 : decode cX11_trade 99 = .ok (.aload_n 0, 1) := by decide +kernel
theorem dX11_trade_100 : decode cX11_trade 100 = .ok (.iconst 2, 1) := by decide +kernel
theorem dX11_trade_101 : decode cX11_trade 101 = .ok (.invokevirtual 234, 3) := by decide +kernel
theorem dX11_trade_104 : decode cX11_trade 104 = .ok (.ifCond .lt 7, 3) := by decide +kernel
theorem dX11_trade_107 : decode cX11_trade 107 = .ok (.iconst 1, 1) := by decide +kernel
theorem dX11_trade_108 : decode cX11_trade 108 = .ok (.goto 4, 3) := by decide +kernel
theorem dX11_trade_111 : decode cX11_trade 111 = .ok (.iconst 0, 1) := by decide +kernel
theorem dX11_trade_112 : decode cX11_trade 112 = .ok (.ireturn, 1) := by decide +kernel
theorem dX11_trade_113 : decode cX11_trade 113 = .ok (.aload_n 0, 1) := by decide +kernel
theorem dX11_trade_114 : decode cX11_trade 114 = .ok (.getfield 177, 3) := by decide +kernel
theorem dX11_trade_117 : decode cX11_trade 117 = .ok (.bipush 26, 2) := by decide +kernel
theorem dX11_trade_119 : decode cX11_trade 119 = .ok (.iload_n 1, 1) := by decide +kernel
theorem dX11_trade_120 : decode cX11_trade 120 = .ok (.imul, 1) := by decide +kernel
theorem dX11_trade_121 : decode cX11_trade 121 = .ok (.iload 5, 2) := by decide +kernel
theorem dX11_trade_123 : decode cX11_trade 123 = .ok (.iadd, 1) := by decide +kernel
theorem dX11_trade_124 : decode cX11_trade 124 = .ok (.dup2, 1) := by decide +kernel
theorem dX11_trade_125 : decode cX11_trade 125 = .ok (.iaload, 1) := by decide +kernel
theorem dX11_trade_126 : decode cX11_trade 126 = .ok (.iconst 1, 1) := by decide +kernel
theorem dX11_trade_127 : decode cX11_trade 127 = .ok (.isub, 1) := by decide +kernel
theorem dX11_trade_128 : decode cX11_trade 128 = .ok (.iastore, 1) := by decide +kernel
theorem dX11_trade_129 : decode cX11_trade 129 = .ok (.aload_n 0, 1) := by decide +kernel
theorem dX11_trade_130 : decode cX11_trade 130 = .ok (.getfield 177, 3) := by decide +kernel
theorem dX11_trade_133 : decode cX11_trade 133 = .ok (.bipush 26, 2) := by decide +kernel
theorem dX11_trade_135 : decode cX11_trade 135 = .ok (.iload_n 3, 1) := by decide +kernel
theorem dX11_trade_136 : decode cX11_trade 136 = .ok (.imul, 1) := by decide +kernel
theorem dX11_trade_137 : decode cX11_trade 137 = .ok (.iload 5, 2) := by decide +kernel
theorem dX11_trade_139 : decode cX11_trade 139 = .ok (.iadd, 1) := by decide +kernel
theorem dX11_trade_140 : decode cX11_trade 140 = .ok (.dup2, 1) := by decide +kernel
theorem dX11_trade_141 : decode cX11_trade 141 = .ok (.iaload, 1) := by decide +kernel
theorem dX11_trade_142 : decode cX11_trade 142 = .ok (.iconst 1, 1) := by decide +kernel
theorem dX11_trade_143 : decode cX11_trade 143 = .ok (.iadd, 1) := by decide +kernel
theorem dX11_trade_144 : decode cX11_trade 144 = .ok (.iastore, 1) := by decide +kernel
theorem dX11_trade_145 : decode cX11_trade 145 = .ok (.aload_n 0, 1) := by decide +kernel
theorem dX11_trade_146 : decode cX11_trade 146 = .ok (.getfield 177, 3) := by decide +kernel
theorem dX11_trade_149 : decode cX11_trade 149 = .ok (.bipush 26, 2) := by decide +kernel
theorem dX11_trade_151 : decode cX11_trade 151 = .ok (.iload_n 3, 1) := by decide +kernel
theorem dX11_trade_152 : decode cX11_trade 152 = .ok (.imul, 1) := by decide +kernel
theorem dX11_trade_153 : decode cX11_trade 153 = .ok (.iload 6, 2) := by decide +kernel
theorem dX11_trade_155 : decode cX11_trade 155 = .ok (.iadd, 1) := by decide +kernel
theorem dX11_trade_156 : decode cX11_trade 156 = .ok (.dup2, 1) := by decide +kernel
theorem dX11_trade_157 : decode cX11_trade 157 = .ok (.iaload, 1) := by decide +kernel
theorem dX11_trade_158 : decode cX11_trade 158 = .ok (.iconst 1, 1) := by decide +kernel
theorem dX11_trade_159 : decode cX11_trade 159 = .ok (.isub, 1) := by decide +kernel
theorem dX11_trade_160 : decode cX11_trade 160 = .ok (.iastore, 1) := by decide +kernel
theorem dX11_trade_161 : decode cX11_trade 161 = .ok (.aload_n 0, 1) := by decide +kernel
theorem dX11_trade_162 : decode cX11_trade 162 = .ok (.getfield 177, 3) := by decide +kernel
theorem dX11_trade_165 : decode cX11_trade 165 = .ok (.bipush 26, 2) := by decide +kernel
theorem dX11_trade_167 : decode cX11_trade 167 = .ok (.iload_n 1, 1) := by decide +kernel
theorem dX11_trade_168 : decode cX11_trade 168 = .ok (.imul, 1) := by decide +kernel
theorem dX11_trade_169 : decode cX11_trade 169 = .ok (.iload 6, 2) := by decide +kernel
theorem dX11_trade_171 : decode cX11_trade 171 = .ok (.iadd, 1) := by decide +kernel
theorem dX11_trade_172 : decode cX11_trade 172 = .ok (.dup2, 1) := by decide +kernel
theorem dX11_trade_173 : decode cX11_trade 173 = .ok (.iaload, 1) := by decide +kernel
theorem dX11_trade_174 : decode cX11_trade 174 = .ok (.iconst 1, 1) := by decide +kernel
theorem dX11_trade_175 : decode cX11_trade 175 = .ok (.iadd, 1) := by decide +kernel
theorem dX11_trade_176 : decode cX11_trade 176 = .ok (.iastore, 1) := by decide +kernel
theorem dX11_trade_177 : decode cX11_trade 177 = .ok (.aload_n 0, 1) := by decide +kernel
theorem dX11_trade_178 : decode cX11_trade 178 = .ok (.iconst 3, 1) := by decide +kernel
theorem dX11_trade_179 : decode cX11_trade 179 = .ok (.iload_n 1, 1) := by decide +kernel
theorem dX11_trade_180 : decode cX11_trade 180 = .ok (.iload_n 3, 1) := by decide +kernel
theorem dX11_trade_181 : decode cX11_trade 181 = .ok (.aload_n 0, 1) := by decide +kernel
theorem dX11_trade_182 : decode cX11_trade 182 = .ok (.iload 5, 2) := by decide +kernel
theorem dX11_trade_184 : decode cX11_trade 184 = .ok (.invokevirtual 433, 3) := by decide +kernel
theorem dX11_trade_187 : decode cX11_trade 187 = .ok (.invokevirtual 517, 3) := by decide +kernel
theorem dX11_trade_190 : decode cX11_trade 190 = .ok (.iconst 1, 1) := by decide +kernel
theorem dX11_trade_191 : decode cX11_trade 191 = .ok (.ireturn, 1) := by decide +kernel
theorem dX11_lend_0 : decode cX11_lend 0 = .ok (.aload_n 0, 1) := by decide +kernel
theorem dX11_lend_1 : decode cX11_lend 1 = .ok (.iload_n 1, 1) := by decide +kernel
theorem dX11_lend_2 : decode cX11_lend 2 = .ok (.invokevirtual 483, 3) := by decide +kernel
theorem dX11_lend_5 : decode cX11_lend 5 = .ok (.ifCond .eq 28, 3) := by decide +kernel
theorem dX11_lend_8 : decode cX11_lend 8 = .ok (.aload_n 0, 1) := by decide +kernel
theorem dX11_lend_9 : decode cX11_lend 9 = .ok (.iload_n 2, 1) := by decide +kernel
theorem dX11_lend_10 : decode cX11_lend 10 = .ok (.invokevirtual 483, 3) := by decide +kernel
theorem dX11_lend_13 : decode cX11_lend 13 = .ok (.ifCond .eq 20, 3) := by decide +kernel
theorem dX11_lend_16 : decode cX11_lend 16 = .ok (.aload_n 0, 1) := by decide +kernel
theorem dX11_lend_17 : decode cX11_lend 17 = .ok (.iload_n 3, 1) := by decide +kernel
theorem dX11_lend_18 : decode cX11_lend 18 = .ok (.invokevirtual 467, 3) := by decide +kernel
theorem dX11_lend_21 : decode cX11_lend 21 = .ok (.ifCond .eq 12, 3) := by decide +kernel
theorem dX11_lend_24 : decode cX11_lend 24 = .ok (.aload_n 0, 1) := by decide +kernel
theorem dX11_lend_25 : decode cX11_lend 25 = .ok (.getfield 183, 3) := by decide +kernel
theorem dX11_lend_28 : decode cX11_lend 28 = .ok (.bipush 20, 2) := by decide +kernel
theorem dX11_lend_30 : decode cX11_lend 30 = .ok (.if_icmp .ne 9, 3) := by decide +kernel
theorem dX11_lend_33 : decode cX11_lend 33 = .ok (.aload_n 0, 1) := by decide +kernel
theorem dX11_lend_34 : decode cX11_lend 34 = .ok (.iconst 3, 1) := by decide +kernel
theorem dX11_lend_35 : decode cX11_lend 35 = .ok (.invokevirtual 234, 3) := by decide +kernel
theorem dX11_lend_38 : decode cX11_lend 38 = .ok (.ireturn, 1) := by decide +kernel
theorem dX11_lend_39 : decode cX11_lend 39 = .ok (.aload_n 0, 1) := by decide +kernel
theorem dX11_lend_40 : decode cX11_lend 40 = .ok (.iload_n 1, 1) := by decide +kernel
theorem dX11_lend_41 : decode cX11_lend 41 = .ok (.iload_n 3, 1) := by decide +kernel
theorem dX11_lend_42 : decode cX11_lend 42 = .ok (.invokevirtual 470, 3) := by decide +kernel
theorem dX11_lend_45 : decode cX11_lend 45 = .ok (.ifCond .eq 31, 3) := by decide +kernel
theorem dX11_lend_48 : decode cX11_lend 48 = .ok (.aload_n 0, 1) := by decide +kernel
theorem dX11_lend_49 : decode cX11_lend 49 = .ok (.iload_n 2, 1) := by decide +kernel
theorem dX11_lend_50 : decode cX11_lend 50 = .ok (.iload_n 3, 1) := by decide +kernel
theorem dX11_lend_51 : decode cX11_lend 51 = .ok (.invokevirtual 470, 3) := by decide +kernel
theorem dX11_lend_54 : decode cX11_lend 54 = .ok (.ifCond .ne 22, 3) := by decide +kernel
theorem dX11_lend_57 : decode cX11_lend 57 = .ok (.aload_n 0, 1) := by decide +kernel
theorem dX11_lend_58 : decode cX11_lend 58 = .ok (.iload_n 2, 1) := by decide +kernel
theorem dX11_lend_59 : decode cX11_lend 59 = .ok (.invokevirtual 489, 3) := by decide +kernel
theorem dX11_lend_62 : decode cX11_lend 62 = .ok (.aload_n 0, 1) := by decide +kernel
theorem dX11_lend_63 : decode cX11_lend 63 = .ok (.iload_n 3, 1) := by decide +kernel
theorem dX11_lend_64 : decode cX11_lend 64 = .ok (.invokevirtual 439, 3) := by decide +kernel
theorem dX11_lend_67 : decode cX11_lend 67 = .ok (.iadd, 1) := by decide +kernel
theorem dX11_lend_68 : decode cX11_lend 68 = .ok (.aload_n 0, 1) := by decide +kernel
theorem dX11_lend_69 : decode cX11_lend 69 = .ok (.iload_n 2, 1) := by decide +kernel
theorem dX11_lend_70 : decode cX11_lend 70 = .ok (.invokevirtual 486, 3) := by decide +kernel
theorem dX11_lend_73 : decode cX11_lend 73 = .ok (.if_icmp .le 9, 3) := by decide +kernel
theorem dX11_lend_76 : decode cX11_lend 76 = .ok (.aload_n 0, 1) := by decide +kernel
theorem dX11_lend_77 : decode cX11_lend 77 = .ok (.iconst 3, 1) := by decide +kernel
theorem dX11_lend_78 : decode cX11_lend 78 = .ok (.invokevirtual 234, 3) := by decide +kernel
theorem dX11_lend_81 : decode cX11_lend 81 = .ok (.ireturn, 1) := by decide +kernel
theorem dX11_lend_82 : decode cX11_lend 82 = .ok (.aload_n 0, 1) := by decide +kernel
theorem dX11_lend_83 : decode cX11_lend 83 = .ok (.iload_n 1, 1) := by decide +kernel
theorem dX11_lend_84 : decode cX11_lend 84 = .ok (.iload_n 3, 1) := by decide +kernel
theorem dX11_lend_85 : decode cX11_lend 85 = .ok (.invokevirtual 527, 3) := by decide +kernel
theorem dX11_lend_88 : decode cX11_lend 88 = .ok (.aload_n 0, 1) := by decide +kernel
theorem dX11_lend_89 : decode cX11_lend 89 = .ok (.iload_n 2, 1) := by decide +kernel
theorem dX11_lend_90 : decode cX11_lend 90 = .ok (.iload_n 3, 1) := by decide +kernel
theorem dX11_lend_91 : decode cX11_lend 91 = .ok (.invokevirtual 514, 3) := by decide +kernel
theorem dX11_lend_94 : decode cX11_lend 94 = .ok (.aload_n 0, 1) := by decide +kernel
theorem dX11_lend_95 : decode cX11_lend 95 = .ok (.getfield 186, 3) := by decide +kernel
theorem dX11_lend_98 : decode cX11_lend 98 = .ok (.aload_n 0, 1) := by decide +kernel
theorem dX11_lend_99 : decode cX11_lend 99 = .ok (.getfield 183, 3) := by decide +kernel
theorem dX11_lend_102 : decode cX11_lend 102 = .ok (.iload_n 1, 1) := by decide +kernel
theorem dX11_lend_103 : decode cX11_lend 103 = .ok (.iastore, 1) := by decide +kernel
theorem dX11_lend_104 : decode cX11_lend 104 = .ok (.aload_n 0, 1) := by decide +kernel
theorem dX11_lend_105 : decode cX11_lend 105 = .ok (.getfield 189, 3) := by decide +kernel
theorem dX11_lend_108 : decode cX11_lend 108 = .ok (.aload_n 0, 1) := by decide +kernel
theorem dX11_lend_109 : decode cX11_lend 109 = .ok (.getfield 183, 3) := by decide +kernel
theorem dX11_lend_112 : decode cX11_lend 112 = .ok (.iload_n 2, 1) := by decide +kernel
theorem dX11_lend_113 : decode cX11_lend 113 = .ok (.iastore, 1) := by decide +kernel
theorem dX11_lend_114 : decode cX11_lend 114 = .ok (.aload_n 0, 1) := by decide +kernel
theorem dX11_lend_115 : decode cX11_lend 115 = .ok (.getfield 192, 3) := by decide +kernel
theorem dX11_lend_118 : decode cX11_lend 118 = .ok (.aload_n 0, 1) := by decide +kernel
theorem dX11_lend_119 : decode cX11_lend 119 = .ok (.getfield 183, 3) := by decide +kernel
theorem dX11_lend_122 : decode cX11_lend 122 = .ok (.iload_n 3, 1) := by decide +kernel
theorem dX11_lend_123 : decode cX11_lend 123 = .ok (.iastore, 1) := by decide +kernel
theorem dX11_lend_124 : decode cX11_lend 124 = .ok (.aload_n 0, 1) := by decide +kernel
theorem dX11_lend_125 : decode cX11_lend 125 = .ok (.dup, 1) := by decide +kernel
theorem dX11_lend_126 : decode cX11_lend 126 = .ok (.getfield 183, 3) := by decide +kernel
theorem dX11_lend_129 : decode cX11_lend 129 = .ok (.iconst 1, 1) := by decide +kernel
theorem dX11_lend_130 : decode cX11_lend 130 = .ok (.iadd, 1) := by decide +kernel
theorem dX11_lend_131 : decode cX11_lend 131 = .ok (.putfield 183, 3) := by decide +kernel
theorem dX11_lend_134 : decode cX11_lend 134 = .ok (.aload_n 0, 1) := by decide +kernel
theorem dX11_lend_135 : decode cX11_lend 135 = .ok (.iconst 4, 1) := by decide +kernel
theorem dX11_lend_136 : decode cX11_lend 136 = .ok (.iload_n 1, 1) := by decide +kernel
theorem dX11_lend_137 : decode cX11_lend 137 = .ok (.iload_n 2, 1) := by decide +kernel
theorem dX11_lend_138 : decode cX11_lend 138 = .ok (.aload_n 0, 1) := by decide +kernel
theorem dX11_lend_139 : decode cX11_lend 139 = .ok (.iload_n 3, 1) := by decide +kernel
theorem dX11_lend_140 : decode cX11_lend 140 = .ok (.invokevirtual 439, 3) := by decide +kernel
theorem dX11_lend_143 : decode cX11_lend 143 = .ok (.invokevirtual 517, 3) := by decide +kernel
theorem dX11_lend_146 : decode cX11_lend 146 = .ok (.aload_n 0, 1) := by decide +kernel
theorem dX11_lend_147 : decode cX11_lend 147 = .ok (.getfield 183, 3) := by decide +kernel
theorem dX11_lend_150 : decode cX11_lend 150 = .ok (.ireturn, 1) := by decide +kernel
theorem dX11_canBack_0 : decode cX11_canBack 0 = .ok (.aload_n 0, 1) := by decide +kernel
theorem dX11_canBack_1 : decode cX11_canBack 1 = .ok (.aload_n 0, 1) := by decide +kernel
theorem dX11_canBack_2 : decode cX11_canBack 2 = .ok (.getfield 189, 3) := by decide +kernel
theorem dX11_canBack_5 : decode cX11_canBack 5 = .ok (.iload_n 1, 1) := by decide +kernel
theorem dX11_canBack_6 : decode cX11_canBack 6 = .ok (.iaload, 1) := by decide +kernel
theorem dX11_canBack_7 : decode cX11_canBack 7 = .ok (.aload_n 0, 1) := by decide +kernel
theorem dX11_canBack_8 : decode cX11_canBack 8 = .ok (.getfield 192, 3) := by decide +kernel
theorem dX11_canBack_11 : decode cX11_canBack 11 = .ok (.iload_n 1, 1) := by decide +kernel
theorem dX11_canBack_12 : decode cX11_canBack 12 = .ok (.iaload, 1) := by decide +kernel
theorem dX11_canBack_13 : decode cX11_canBack 13 = .ok (.invokevirtual 470, 3) := by decide +kernel
theorem dX11_canBack_16 : decode cX11_canBack 16 = .ok (.ifCond .eq 26, 3) := by decide +kernel
theorem dX11_canBack_19 : decode cX11_canBack 19 = .ok (.aload_n 0, 1) := by decide +kernel
theorem dX11_canBack_20 : decode cX11_canBack 20 = .ok (.aload_n 0, 1) := by decide +kernel
theorem dX11_canBack_21 : decode cX11_canBack 21 = .ok (.getfield 186, 3) := by decide +kernel
theorem dX11_canBack_24 : decode cX11_canBack 24 = .ok (.iload_n 1, 1) := by decide +kernel
theorem dX11_canBack_25 : decode cX11_canBack 25 = .ok (.iaload, 1) := by decide +kernel
theorem dX11_canBack_26 : decode cX11_canBack 26 = .ok (.aload_n 0, 1) := by decide +kernel
theorem dX11_canBack_27 : decode cX11_canBack 27 = .ok (.getfield 192, 3) := by decide +kernel
theorem dX11_canBack_30 : decode cX11_canBack 30 = .ok (.iload_n 1, 1) := by decide +kernel
theorem dX11_canBack_31 : decode cX11_canBack 31 = .ok (.iaload, 1) := by decide +kernel
theorem dX11_canBack_32 : decode cX11_canBack 32 = .ok (.invokevirtual 470, 3) := by decide +kernel
theorem dX11_canBack_35 : decode cX11_canBack 35 = .ok (.ifCond .ne 7, 3) := by decide +kernel
theorem dX11_canBack_38 : decode cX11_canBack 38 = .ok (.iconst 1, 1) := by decide +kernel
theorem dX11_canBack_39 : decode cX11_canBack 39 = .ok (.goto 4, 3) := by decide +kernel
theorem dX11_canBack_42 : decode cX11_canBack 42 = .ok (.iconst 0, 1) := by decide +kernel
theorem dX11_canBack_43 : decode cX11_canBack 43 = .ok (.ireturn, 1) := by decide +kernel
theorem dX11_giveBack_0 : decode cX11_giveBack 0 = .ok (.iload_n 1, 1) := by decide +kernel
theorem dX11_giveBack_1 : decode cX11_giveBack 1 = .ok (.iconst 0, 1) := by decide +kernel
theorem dX11_giveBack_2 : decode cX11_giveBack 2 = .ok (.aload_n 0, 1) := by decide +kernel
theorem dX11_giveBack_3 : decode cX11_giveBack 3 = .ok (.getfield 183, 3) := by decide +kernel
theorem dX11_giveBack_6 : decode cX11_giveBack 6 = .ok (.iconst 1, 1) := by decide +kernel
theorem dX11_giveBack_7 : decode cX11_giveBack 7 = .ok (.isub, 1) := by decide +kernel
theorem dX11_giveBack_8 : decode cX11_giveBack 8 = .ok (.invokestatic 309, 3) := by decide +kernel
theorem dX11_giveBack_11 : decode cX11_giveBack 11 = .ok (.ifCond .eq 11, 3) := by decide +kernel
theorem dX11_giveBack_14 : decode cX11_giveBack 14 = .ok (.aload_n 0, 1) := by decide +kernel
theorem dX11_giveBack_15 : decode cX11_giveBack 15 = .ok (.iload_n 1, 1) := by decide +kernel
theorem dX11_giveBack_16 : decode cX11_giveBack 16 = .ok (.invokevirtual 539, 3) := by decide +kernel
theorem dX11_giveBack_19 : decode cX11_giveBack 19 = .ok (.ifCond .ne 17, 3) := by decide +kernel
theorem dX11_giveBack_22 : decode cX11_giveBack 22 = .ok (.aload_n 0, 1) := by decide +kernel
theorem dX11_giveBack_23 : decode cX11_giveBack 23 = .ok (.iconst 3, 1) := by decide +kernel
theorem dX11_giveBack_24 : decode cX11_giveBack 24 = .ok (.invokevirtual 234, 3) := by decide +kernel
theorem dX11_giveBack_27 : decode cX11_giveBack 27 = .ok (.ifCond .lt 7, 3) := by decide +kernel
theorem dX11_giveBack_30 : decode cX11_giveBack 30 = .ok (.iconst 1, 1) := by decide +kernel
theorem dX11_giveBack_31 : decode cX11_giveBack 31 = .ok (.goto 4, 3) := by decide +kernel
theorem dX11_giveBack_34 : decode cX11_giveBack 34 = .ok (.iconst 0, 1) := by decide +kernel
theorem dX11_giveBack_35 : decode cX11_giveBack 35 = .ok (.ireturn, 1) := by decide +kernel
theorem dX11_giveBack_36 : decode cX11_giveBack 36 = .ok (.aload_n 0, 1) := by decide +kernel
theorem dX11_giveBack_37 : decode cX11_giveBack 37 = .ok (.getfield 186, 3) := by decide +kernel
theorem dX11_giveBack_40 : decode cX11_giveBack 40 = .ok (.iload_n 1, 1) := by decide +kernel
theorem dX11_giveBack_41 : decode cX11_giveBack 41 = .ok (.iaload, 1) := by decide +kernel
theorem dX11_giveBack_42 : decode cX11_giveBack 42 = .ok (.istore_n 2, 1) := by decide +kernel
theorem dX11_giveBack_43 : decode cX11_giveBack 43 = .ok (.aload_n 0, 1) := by decide +kernel
theorem dX11_giveBack_44 : decode cX11_giveBack 44 = .ok (.getfield 189, 3) := by decide +kernel
theorem dX11_giveBack_47 : decode cX11_giveBack 47 = .ok (.iload_n 1, 1) := by decide +kernel
theorem dX11_giveBack_48 : decode cX11_giveBack 48 = .ok (.iaload, 1) := by decide +kernel
theorem dX11_giveBack_49 : decode cX11_giveBack 49 = .ok (.istore_n 3, 1) := by decide +kernel
theorem dX11_giveBack_50 : decode cX11_giveBack 50 = .ok (.aload_n 0, 1) := by decide +kernel
theorem dX11_giveBack_51 : decode cX11_giveBack 51 = .ok (.getfield 192, 3) := by decide +kernel
theorem dX11_giveBack_54 : decode cX11_giveBack 54 = .ok (.iload_n 1, 1) := by decide +kernel
theorem dX11_giveBack_55 : decode cX11_giveBack 55 = .ok (.iaload, 1) := by decide +kernel
theorem dX11_giveBack_56 : decode cX11_giveBack 56 = .ok (.istore 4, 2) := by decide +kernel
theorem dX11_giveBack_58 : decode cX11_giveBack 58 = .ok (.aload_n 0, 1) := by decide +kernel
theorem dX11_giveBack_59 : decode cX11_giveBack 59 = .ok (.iload_n 3, 1) := by decide +kernel
theorem dX11_giveBack_60 : decode cX11_giveBack 60 = .ok (.iload 4, 2) := by decide +kernel
theorem dX11_giveBack_62 : decode cX11_giveBack 62 = .ok (.invokevirtual 527, 3) := by decide +kernel
theorem dX11_giveBack_65 : decode cX11_giveBack 65 = .ok (.aload_n 0, 1) := by decide +kernel
theorem dX11_giveBack_66 : decode cX11_giveBack 66 = .ok (.iload_n 2, 1) := by decide +kernel
theorem dX11_giveBack_67 : decode cX11_giveBack 67 = .ok (.iload 4, 2) := by decide +kernel
theorem dX11_giveBack_69 : decode cX11_giveBack 69 = .ok (.invokevirtual 514, 3) := by decide +kernel
theorem dX11_giveBack_72 : decode cX11_giveBack 72 = .ok (.aload_n 0, 1) := by decide +kernel
theorem dX11_giveBack_73 : decode cX11_giveBack 73 = .ok (.dup, 1) := by decide +kernel
theorem dX11_giveBack_74 : decode cX11_giveBack 74 = .ok (.getfield 183, 3) := by decide +kernel
theorem dX11_giveBack_77 : decode cX11_giveBack 77 = .ok (.iconst 1, 1) := by decide +kernel
theorem dX11_giveBack_78 : decode cX11_giveBack 78 = .ok (.isub, 1) := by decide +kernel
theorem dX11_giveBack_79 : decode cX11_giveBack 79 = .ok (.putfield 183, 3) := by decide +kernel
theorem dX11_giveBack_82 : decode cX11_giveBack 82 = .ok (.iload_n 1, 1) := by decide +kernel
theorem dX11_giveBack_83 : decode cX11_giveBack 83 = .ok (.istore 5, 2) := by decide +kernel
theorem dX11_giveBack_85 : decode cX11_giveBack 85 = .ok (.iload 5, 2) := by decide +kernel
theorem dX11_giveBack_87 : decode cX11_giveBack 87 = .ok (.aload_n 0, 1) := by decide +kernel
theorem dX11_giveBack_88 : decode cX11_giveBack 88 = .ok (.getfield 183, 3) := by decide +kernel
theorem dX11_giveBack_91 : decode cX11_giveBack 91 = .ok (.if_icmp .ge 57, 3) := by decide +kernel
theorem dX11_giveBack_94 : decode cX11_giveBack 94 = .ok (.aload_n 0, 1) := by decide +kernel
theorem dX11_giveBack_95 : decode cX11_giveBack 95 = .ok (.getfield 186, 3) := by decide +kernel
theorem dX11_giveBack_98 : decode cX11_giveBack 98 = .ok (.iload 5, 2) := by decide +kernel
theorem dX11_giveBack_100 : decode cX11_giveBack 100 = .ok (.aload_n 0, 1) := by decide +kernel
theorem dX11_giveBack_101 : decode cX11_giveBack 101 = .ok (.getfield 186, 3) := by decide +kernel
theorem dX11_giveBack_104 : decode cX11_giveBack 104 = .ok (.iload 5, 2) := by decide +kernel
theorem dX11_giveBack_106 : decode cX11_giveBack 106 = .ok (.iconst 1, 1) := by decide +kernel
theorem dX11_giveBack_107 : decode cX11_giveBack 107 = .ok (.iadd, 1) := by decide +kernel
theorem dX11_giveBack_108 : decode cX11_giveBack 108 = .ok (.iaload, 1) := by decide +kernel
theorem dX11_giveBack_109 : decode cX11_giveBack 109 = .ok (.iastore, 1) := by decide +kernel
theorem dX11_giveBack_110 : decode cX11_giveBack 110 = .ok (.aload_n 0, 1) := by decide +kernel
theorem dX11_giveBack_111 : decode cX11_giveBack 111 = .ok (.getfield 189, 3) := by decide +kernel
theorem dX11_giveBack_114 : decode cX11_giveBack 114 = .ok (.iload 5, 2) := by decide +kernel
theorem dX11_giveBack_116 : decode cX11_giveBack 116 = .ok (.aload_n 0, 1) := by decide +kernel
theorem dX11_giveBack_117 : decode cX11_giveBack 117 = .ok (.getfield 189, 3) := by decide +kernel
theorem dX11_giveBack_120 : decode cX11_giveBack 120 = .ok (.iload 5, 2) := by decide +kernel
theorem dX11_giveBack_122 : decode cX11_giveBack 122 = .ok (.iconst 1, 1) := by decide +kernel
theorem dX11_giveBack_123 : decode cX11_giveBack 123 = .ok (.iadd, 1) := by decide +kernel
theorem dX11_giveBack_124 : decode cX11_giveBack 124 = .ok (.iaload, 1) := by decide +kernel
theorem dX11_giveBack_125 : decode cX11_giveBack 125 = .ok (.iastore, 1) := by decide +kernel
theorem dX11_giveBack_126 : decode cX11_giveBack 126 = .ok (.aload_n 0, 1) := by decide +kernel
theorem dX11_giveBack_127 : decode cX11_giveBack 127 = .ok (.getfield 192, 3) := by decide +kernel
theorem dX11_giveBack_130 : decode cX11_giveBack 130 = .ok (.iload 5, 2) := by decide +kernel
theorem dX11_giveBack_132 : decode cX11_giveBack 132 = .ok (.aload_n 0, 1) := by decide +kernel
theorem dX11_giveBack_133 : decode cX11_giveBack 133 = .ok (.getfield 192, 3) := by decide +kernel
theorem dX11_giveBack_136 : decode cX11_giveBack 136 = .ok (.iload 5, 2) := by decide +kernel
theorem dX11_giveBack_138 : decode cX11_giveBack 138 = .ok (.iconst 1, 1) := by decide +kernel
theorem dX11_giveBack_139 : decode cX11_giveBack 139 = .ok (.iadd, 1) := by decide +kernel
theorem dX11_giveBack_140 : decode cX11_giveBack 140 = .ok (.iaload, 1) := by decide +kernel
theorem dX11_giveBack_141 : decode cX11_giveBack 141 = .ok (.iastore, 1) := by decide +kernel
theorem dX11_giveBack_142 : decode cX11_giveBack 142 = .ok (.iinc 5 1, 3) := by decide +kernel
theorem dX11_giveBack_145 : decode cX11_giveBack 145 = .ok (.goto (-60), 3) := by decide +kernel
theorem dX11_giveBack_148 : decode cX11_giveBack 148 = .ok (.aload_n 0, 1) := by decide +kernel
theorem dX11_giveBack_149 : decode cX11_giveBack 149 = .ok (.iconst 5, 1) := by decide +kernel
theorem dX11_giveBack_150 : decode cX11_giveBack 150 = .ok (.iload_n 3, 1) := by decide +kernel
theorem dX11_giveBack_151 : decode cX11_giveBack 151 = .ok (.iload_n 2, 1) := by decide +kernel
theorem dX11_giveBack_152 : decode cX11_giveBack 152 = .ok (.aload_n 0, 1) := by decide +kernel
theorem dX11_giveBack_153 : decode cX11_giveBack 153 = .ok (.iload 4, 2) := by decide +kernel
theorem dX11_giveBack_155 : decode cX11_giveBack 155 = .ok (.invokevirtual 439, 3) := by decide +kernel
theorem dX11_giveBack_158 : decode cX11_giveBack 158 = .ok (.invokevirtual 517, 3) := by decide +kernel
theorem dX11_giveBack_161 : decode cX11_giveBack 161 = .ok (.iconst 1, 1) := by decide +kernel
theorem dX11_giveBack_162 : decode cX11_giveBack 162 = .ok (.ireturn, 1) := by decide +kernel
theorem dX11_loan_0 : decode cX11_loan 0 = .ok (.iload_n 1, 1) := by decide +kernel
theorem dX11_loan_1 : decode cX11_loan 1 = .ok (.iconst 0, 1) := by decide +kernel
theorem dX11_loan_2 : decode cX11_loan 2 = .ok (.aload_n 0, 1) := by decide +kernel
theorem dX11_loan_3 : decode cX11_loan 3 = .ok (.getfield 183, 3) := by decide +kernel
theorem dX11_loan_6 : decode cX11_loan 6 = .ok (.iconst 1, 1) := by decide +kernel
theorem dX11_loan_7 : decode cX11_loan 7 = .ok (.isub, 1) := by decide +kernel
theorem dX11_loan_8 : decode cX11_loan 8 = .ok (.invokestatic 309, 3) := by decide +kernel
theorem dX11_loan_11 : decode cX11_loan 11 = .ok (.ifCond .ne 5, 3) := by decide +kernel
theorem dX11_loan_14 : decode cX11_loan 14 = .ok (.iconst (-1), 1) := by decide +kernel
theorem dX11_loan_15 : decode cX11_loan 15 = .ok (.ireturn, 1) := by decide +kernel
theorem dX11_loan_16 : decode cX11_loan 16 = .ok (.iload_n 2, 1) := by decide +kernel
theorem dX11_loan_17 : decode cX11_loan 17 = .ok (.ifCond .ne 12, 3) := by decide +kernel
theorem dX11_loan_20 : decode cX11_loan 20 = .ok (.aload_n 0, 1) := by decide +kernel
theorem dX11_loan_21 : decode cX11_loan 21 = .ok (.getfield 186, 3) := by decide +kernel
theorem dX11_loan_24 : decode cX11_loan 24 = .ok (.iload_n 1, 1) := by decide +kernel
theorem dX11_loan_25 : decode cX11_loan 25 = .ok (.iaload, 1) := by decide +kernel
theorem dX11_loan_26 : decode cX11_loan 26 = .ok (.goto 53, 3) := by decide +kernel
theorem dX11_loan_29 : decode cX11_loan 29 = .ok (.iload_n 2, 1) := by decide +kernel
theorem dX11_loan_30 : decode cX11_loan 30 = .ok (.iconst 1, 1) := by decide +kernel
theorem dX11_loan_31 : decode cX11_loan 31 = .ok (.if_icmp .ne 12, 3) := by decide +kernel
theorem dX11_loan_34 : decode cX11_loan 34 = .ok (.aload_n 0, 1) := by decide +kernel
theorem dX11_loan_35 : decode cX11_loan 35 = .ok (.getfield 189, 3) := by decide +kernel
theorem dX11_loan_38 : decode cX11_loan 38 = .ok (.iload_n 1, 1) := by decide +kernel
theorem dX11_loan_39 : decode cX11_loan 39 = .ok (.iaload, 1) := by decide +kernel
theorem dX11_loan_40 : decode cX11_loan 40 = .ok (.goto 39, 3) := by decide +kernel
theorem dX11_loan_43 : decode cX11_loan 43 = .ok (.iload_n 2, 1) := by decide +kernel
theorem dX11_loan_44 : decode cX11_loan 44 = .ok (.iconst 2, 1) := by decide +kernel
theorem dX11_loan_45 : decode cX11_loan 45 = .ok (.if_icmp .ne 12, 3) := by decide +kernel
theorem dX11_loan_48 : decode cX11_loan 48 = .ok (.aload_n 0, 1) := by decide +kernel
theorem dX11_loan_49 : decode cX11_loan 49 = .ok (.getfield 192, 3) := by decide +kernel
theorem dX11_loan_52 : decode cX11_loan 52 = .ok (.iload_n 1, 1) := by decide +kernel
theorem dX11_loan_53 : decode cX11_loan 53 = .ok (.iaload, 1) := by decide +kernel
theorem dX11_loan_54 : decode cX11_loan 54 = .ok (.goto 25, 3) := by decide +kernel
theorem dX11_loan_57 : decode cX11_loan 57 = .ok (.iload_n 2, 1) := by decide +kernel
theorem dX11_loan_58 : decode cX11_loan 58 = .ok (.iconst 3, 1) := by decide +kernel
theorem dX11_loan_59 : decode cX11_loan 59 = .ok (.if_icmp .ne 19, 3) := by decide +kernel
theorem dX11_loan_62 : decode cX11_loan 62 = .ok (.aload_n 0, 1) := by decide +kernel
theorem dX11_loan_63 : decode cX11_loan 63 = .ok (.iload_n 1, 1) := by decide +kernel
theorem dX11_loan_64 : decode cX11_loan 64 = .ok (.invokevirtual 539, 3) := by decide +kernel
theorem dX11_loan_67 : decode cX11_loan 67 = .ok (.ifCond .eq 7, 3) := by decide +kernel
theorem dX11_loan_70 : decode cX11_loan 70 = .ok (.iconst 1, 1) := by decide +kernel
theorem dX11_loan_71 : decode cX11_loan 71 = .ok (.goto 8, 3) := by decide +kernel
theorem dX11_loan_74 : decode cX11_loan 74 = .ok (.iconst 0, 1) := by decide +kernel
theorem dX11_loan_75 : decode cX11_loan 75 = .ok (.goto 4, 3) := by decide +kernel
theorem dX11_loan_78 : decode cX11_loan 78 = .ok (.iconst (-1), 1) := by decide +kernel
theorem dX11_loan_79 : decode cX11_loan 79 = .ok (.ireturn, 1) := by decide +kernel
theorem dX11_drown_0 : decode cX11_drown 0 = .ok (.aload_n 0, 1) := by decide +kernel
theorem dX11_drown_1 : decode cX11_drown 1 = .ok (.iload_n 1, 1) := by decide +kernel
theorem dX11_drown_2 : decode cX11_drown 2 = .ok (.invokevirtual 483, 3) := by decide +kernel
theorem dX11_drown_5 : decode cX11_drown 5 = .ok (.ifCond .ne 9, 3) := by decide +kernel
theorem dX11_drown_8 : decode cX11_drown 8 = .ok (.aload_n 0, 1) := by decide +kernel
theorem dX11_drown_9 : decode cX11_drown 9 = .ok (.iconst 3, 1) := by decide +kernel
theorem dX11_drown_10 : decode cX11_drown 10 = .ok (.invokevirtual 234, 3) := by decide +kernel
theorem dX11_drown_13 : decode cX11_drown 13 = .ok (.ireturn, 1) := by decide +kernel
theorem dX11_drown_14 : decode cX11_drown 14 = .ok (.aload_n 0, 1) := by decide +kernel
theorem dX11_drown_15 : decode cX11_drown 15 = .ok (.iload_n 1, 1) := by decide +kernel
theorem dX11_drown_16 : decode cX11_drown 16 = .ok (.invokevirtual 489, 3) := by decide +kernel
