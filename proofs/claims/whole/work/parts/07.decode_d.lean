theorem dX10_isCrowded_166 : decode cX10_isCrowded 166 = .ok (.iload_n 3, 1) := by decide +kernel
theorem dX10_isCrowded_167 : decode cX10_isCrowded 167 = .ok (.iadd, 1) := by decide +kernel
theorem dX10_isCrowded_168 : decode cX10_isCrowded 168 = .ok (.iaload, 1) := by decide +kernel
theorem dX10_isCrowded_169 : decode cX10_isCrowded 169 = .ok (.aload_n 0, 1) := by decide +kernel
theorem dX10_isCrowded_170 : decode cX10_isCrowded 170 = .ok (.getfield 69, 3) := by decide +kernel
theorem dX10_isCrowded_173 : decode cX10_isCrowded 173 = .ok (.iload_n 3, 1) := by decide +kernel
theorem dX10_isCrowded_174 : decode cX10_isCrowded 174 = .ok (.iaload, 1) := by decide +kernel
theorem dX10_isCrowded_175 : decode cX10_isCrowded 175 = .ok (.iadd, 1) := by decide +kernel
theorem dX10_isCrowded_176 : decode cX10_isCrowded 176 = .ok (.bipush 12, 2) := by decide +kernel
theorem dX10_isCrowded_178 : decode cX10_isCrowded 178 = .ok (.if_icmp .le 5, 3) := by decide +kernel
theorem dX10_isCrowded_181 : decode cX10_isCrowded 181 = .ok (.iconst 1, 1) := by decide +kernel
theorem dX10_isCrowded_182 : decode cX10_isCrowded 182 = .ok (.ireturn, 1) := by decide +kernel
theorem dX10_isCrowded_183 : decode cX10_isCrowded 183 = .ok (.iinc 3 1, 3) := by decide +kernel
theorem dX10_isCrowded_186 : decode cX10_isCrowded 186 = .ok (.goto (-61), 3) := by decide +kernel
theorem dX10_isCrowded_189 : decode cX10_isCrowded 189 = .ok (.iinc 2 1, 3) := by decide +kernel
theorem dX10_isCrowded_192 : decode cX10_isCrowded 192 = .ok (.goto (-190), 3) := by decide +kernel
theorem dX10_isCrowded_195 : decode cX10_isCrowded 195 = .ok (.iconst 0, 1) := by decide +kernel
theorem dX10_isCrowded_196 : decode cX10_isCrowded 196 = .ok (.ireturn, 1) := by decide +kernel
theorem dX10_copy_0 : decode cX10_copy 0 = .ok (.aload_n 0, 1) := by decide +kernel
theorem dX10_copy_1 : decode cX10_copy 1 = .ok (.aload_n 0, 1) := by decide +kernel
theorem dX10_copy_2 : decode cX10_copy 2 = .ok (.iload_n 1, 1) := by decide +kernel
theorem dX10_copy_3 : decode cX10_copy 3 = .ok (.invokevirtual 124, 3) := by decide +kernel
theorem dX10_copy_6 : decode cX10_copy 6 = .ok (.ifCond .ge 7, 3) := by decide +kernel
theorem dX10_copy_9 : decode cX10_copy 9 = .ok (.iconst 1, 1) := by decide +kernel
theorem dX10_copy_10 : decode cX10_copy 10 = .ok (.goto 4, 3) := by decide +kernel
theorem dX10_copy_13 : decode cX10_copy 13 = .ok (.iconst 0, 1) := by decide +kernel
theorem dX10_copy_14 : decode cX10_copy 14 = .ok (.invokevirtual 88, 3) := by decide +kernel
theorem dX10_copy_17 : decode cX10_copy 17 = .ok (.ifCond .eq 5, 3) := by decide +kernel
theorem dX10_copy_20 : decode cX10_copy 20 = .ok (.iconst 0, 1) := by decide +kernel
theorem dX10_copy_21 : decode cX10_copy 21 = .ok (.ireturn, 1) := by decide +kernel
theorem dX10_copy_22 : decode cX10_copy 22 = .ok (.aload_n 0, 1) := by decide +kernel
theorem dX10_copy_23 : decode cX10_copy 23 = .ok (.iload_n 1, 1) := by decide +kernel
theorem dX10_copy_24 : decode cX10_copy 24 = .ok (.invokevirtual 124, 3) := by decide +kernel
theorem dX10_copy_27 : decode cX10_copy 27 = .ok (.istore_n 2, 1) := by decide +kernel
theorem dX10_copy_28 : decode cX10_copy 28 = .ok (.aload_n 0, 1) := by decide +kernel
theorem dX10_copy_29 : decode cX10_copy 29 = .ok (.iload_n 2, 1) := by decide +kernel
theorem dX10_copy_30 : decode cX10_copy 30 = .ok (.invokevirtual 158, 3) := by decide +kernel
theorem dX10_copy_33 : decode cX10_copy 33 = .ok (.pop, 1) := by decide +kernel
theorem dX10_copy_34 : decode cX10_copy 34 = .ok (.aload_n 0, 1) := by decide +kernel
theorem dX10_copy_35 : decode cX10_copy 35 = .ok (.getfield 60, 3) := by decide +kernel
theorem dX10_copy_38 : decode cX10_copy 38 = .ok (.iload_n 2, 1) := by decide +kernel
theorem dX10_copy_39 : decode cX10_copy 39 = .ok (.iconst 1, 1) := by decide +kernel
theorem dX10_copy_40 : decode cX10_copy 40 = .ok (.bastore, 1) := by decide +kernel
theorem dX10_copy_41 : decode cX10_copy 41 = .ok (.iconst 0, 1) := by decide +kernel
theorem dX10_copy_42 : decode cX10_copy 42 = .ok (.istore_n 3, 1) := by decide +kernel
theorem dX10_copy_43 : decode cX10_copy 43 = .ok (.iconst (-1), 1) := by decide +kernel
theorem dX10_copy_44 : decode cX10_copy 44 = .ok (.istore 4, 2) := by decide +kernel
theorem dX10_copy_46 : decode cX10_copy 46 = .ok (.iload 4, 2) := by decide +kernel
theorem dX10_copy_48 : decode cX10_copy 48 = .ok (.bipush (-2), 2) := by decide +kernel
theorem dX10_copy_50 : decode cX10_copy 50 = .ok (.if_icmp .eq 115, 3) := by decide +kernel
theorem dX10_copy_53 : decode cX10_copy 53 = .ok (.iconst (-1), 1) := by decide +kernel
theorem dX10_copy_54 : decode cX10_copy 54 = .ok (.istore 5, 2) := by decide +kernel
theorem dX10_copy_56 : decode cX10_copy 56 = .ok (.iconst 0, 1) := by decide +kernel
theorem dX10_copy_57 : decode cX10_copy 57 = .ok (.istore 6, 2) := by decide +kernel
theorem dX10_copy_59 : decode cX10_copy 59 = .ok (.iload 6, 2) := by decide +kernel
theorem dX10_copy_61 : decode cX10_copy 61 = .ok (.bipush 100, 2) := by decide +kernel
theorem dX10_copy_63 : decode cX10_copy 63 = .ok (.if_icmp .ge 67, 3) := by decide +kernel
theorem dX10_copy_66 : decode cX10_copy 66 = .ok (.aload_n 0, 1) := by decide +kernel
theorem dX10_copy_67 : decode cX10_copy 67 = .ok (.getfield 26, 3) := by decide +kernel
theorem dX10_copy_70 : decode cX10_copy 70 = .ok (.iload 6, 2) := by decide +kernel
theorem dX10_copy_72 : decode cX10_copy 72 = .ok (.baload, 1) := by decide +kernel
theorem dX10_copy_73 : decode cX10_copy 73 = .ok (.ifCond .eq 51, 3) := by decide +kernel
theorem dX10_copy_76 : decode cX10_copy 76 = .ok (.aload_n 0, 1) := by decide +kernel
theorem dX10_copy_77 : decode cX10_copy 77 = .ok (.getfield 60, 3) := by decide +kernel
theorem dX10_copy_80 : decode cX10_copy 80 = .ok (.iload 6, 2) := by decide +kernel
theorem dX10_copy_82 : decode cX10_copy 82 = .ok (.baload, 1) := by decide +kernel
theorem dX10_copy_83 : decode cX10_copy 83 = .ok (.ifCond .eq 41, 3) := by decide +kernel
theorem dX10_copy_86 : decode cX10_copy 86 = .ok (.aload_n 0, 1) := by decide +kernel
theorem dX10_copy_87 : decode cX10_copy 87 = .ok (.getfield 30, 3) := by decide +kernel
theorem dX10_copy_90 : decode cX10_copy 90 = .ok (.iload 6, 2) := by decide +kernel
theorem dX10_copy_92 : decode cX10_copy 92 = .ok (.iaload, 1) := by decide +kernel
theorem dX10_copy_93 : decode cX10_copy 93 = .ok (.iload 4, 2) := by decide +kernel
theorem dX10_copy_95 : decode cX10_copy 95 = .ok (.if_icmp .le 29, 3) := by decide +kernel
theorem dX10_copy_98 : decode cX10_copy 98 = .ok (.iload 5, 2) := by decide +kernel
theorem dX10_copy_100 : decode cX10_copy 100 = .ok (.ifCond .lt 20, 3) := by decide +kernel
theorem dX10_copy_103 : decode cX10_copy 103 = .ok (.aload_n 0, 1) := by decide +kernel
theorem dX10_copy_104 : decode cX10_copy 104 = .ok (.getfield 30, 3) := by decide +kernel
theorem dX10_copy_107 : decode cX10_copy 107 = .ok (.iload 6, 2) := by decide +kernel
theorem dX10_copy_109 : decode cX10_copy 109 = .ok (.iaload, 1) := by decide +kernel
theorem dX10_copy_110 : decode cX10_copy 110 = .ok (.aload_n 0, 1) := by decide +kernel
theorem dX10_copy_111 : decode cX10_copy 111 = .ok (.getfield 30, 3) := by decide +kernel
theorem dX10_copy_114 : decode cX10_copy 114 = .ok (.iload 5, 2) := by decide +kernel
theorem dX10_copy_116 : decode cX10_copy 116 = .ok (.iaload, 1) := by decide +kernel
theorem dX10_copy_117 : decode cX10_copy 117 = .ok (.if_icmp .ge 7, 3) := by decide +kernel
theorem dX10_copy_120 : decode cX10_copy 120 = .ok (.iload 6, 2) := by decide +kernel
theorem dX10_copy_122 : decode cX10_copy 122 = .ok (.istore 5, 2) := by decide +kernel
theorem dX10_copy_124 : decode cX10_copy 124 = .ok (.iinc 6 1, 3) := by decide +kernel
theorem dX10_copy_127 : decode cX10_copy 127 = .ok (.goto (-68), 3) := by decide +kernel
theorem dX10_copy_130 : decode cX10_copy 130 = .ok (.iload 5, 2) := by decide +kernel
theorem dX10_copy_132 : decode cX10_copy 132 = .ok (.ifCond .ge 10, 3) := by decide +kernel
theorem dX10_copy_135 : decode cX10_copy 135 = .ok (.bipush (-2), 2) := by decide +kernel
theorem dX10_copy_137 : decode cX10_copy 137 = .ok (.istore 4, 2) := by decide +kernel
theorem dX10_copy_139 : decode cX10_copy 139 = .ok (.goto 23, 3) := by decide +kernel
theorem dX10_copy_142 : decode cX10_copy 142 = .ok (.aload_n 0, 1) := by decide +kernel
theorem dX10_copy_143 : decode cX10_copy 143 = .ok (.getfield 66, 3) := by decide +kernel
theorem dX10_copy_146 : decode cX10_copy 146 = .ok (.iload_n 3, 1) := by decide +kernel
theorem dX10_copy_147 : decode cX10_copy 147 = .ok (.iload 5, 2) := by decide +kernel
theorem dX10_copy_149 : decode cX10_copy 149 = .ok (.iastore, 1) := by decide +kernel
theorem dX10_copy_150 : decode cX10_copy 150 = .ok (.iinc 3 1, 3) := by decide +kernel
theorem dX10_copy_153 : decode cX10_copy 153 = .ok (.aload_n 0, 1) := by decide +kernel
theorem dX10_copy_154 : decode cX10_copy 154 = .ok (.getfield 30, 3) := by decide +kernel
theorem dX10_copy_157 : decode cX10_copy 157 = .ok (.iload 5, 2) := by decide +kernel
theorem dX10_copy_159 : decode cX10_copy 159 = .ok (.iaload, 1) := by decide +kernel
theorem dX10_copy_160 : decode cX10_copy 160 = .ok (.istore 4, 2) := by decide +kernel
theorem dX10_copy_162 : decode cX10_copy 162 = .ok (.goto (-116), 3) := by decide +kernel
theorem dX10_copy_165 : decode cX10_copy 165 = .ok (.aload_n 0, 1) := by decide +kernel
theorem dX10_copy_166 : decode cX10_copy 166 = .ok (.aload_n 0, 1) := by decide +kernel
theorem dX10_copy_167 : decode cX10_copy 167 = .ok (.getfield 95, 3) := by decide +kernel
theorem dX10_copy_170 : decode cX10_copy 170 = .ok (.iload_n 3, 1) := by decide +kernel
theorem dX10_copy_171 : decode cX10_copy 171 = .ok (.iadd, 1) := by decide +kernel
theorem dX10_copy_172 : decode cX10_copy 172 = .ok (.bipush 100, 2) := by decide +kernel
theorem dX10_copy_174 : decode cX10_copy 174 = .ok (.if_icmp .gt 11, 3) := by decide +kernel
theorem dX10_copy_177 : decode cX10_copy 177 = .ok (.aload_n 0, 1) := by decide +kernel
theorem dX10_copy_178 : decode cX10_copy 178 = .ok (.iload_n 3, 1) := by decide +kernel
theorem dX10_copy_179 : decode cX10_copy 179 = .ok (.invokevirtual 161, 3) := by decide +kernel
theorem dX10_copy_182 : decode cX10_copy 182 = .ok (.ifCond .eq 7, 3) := by decide +kernel
theorem dX10_copy_185 : decode cX10_copy 185 = .ok (.iconst 2, 1) := by decide +kernel
theorem dX10_copy_186 : decode cX10_copy 186 = .ok (.goto 4, 3) := by decide +kernel
theorem dX10_copy_189 : decode cX10_copy 189 = .ok (.iconst 0, 1) := by decide +kernel
theorem dX10_copy_190 : decode cX10_copy 190 = .ok (.invokevirtual 88, 3) := by decide +kernel
theorem dX10_copy_193 : decode cX10_copy 193 = .ok (.ifCond .eq 5, 3) := by decide +kernel
theorem dX10_copy_196 : decode cX10_copy 196 = .ok (.iconst 0, 1) := by decide +kernel
theorem dX10_copy_197 : decode cX10_copy 197 = .ok (.ireturn, 1) := by decide +kernel
theorem dX10_copy_198 : decode cX10_copy 198 = .ok (.iconst 0, 1) := by decide +kernel
theorem dX10_copy_199 : decode cX10_copy 199 = .ok (.istore 5, 2) := by decide +kernel
theorem dX10_copy_201 : decode cX10_copy 201 = .ok (.iload 5, 2) := by decide +kernel
theorem dX10_copy_203 : decode cX10_copy 203 = .ok (.bipush 100, 2) := by decide +kernel
theorem dX10_copy_205 : decode cX10_copy 205 = .ok (.if_icmp .ge 17, 3) := by decide +kernel
theorem dX10_copy_208 : decode cX10_copy 208 = .ok (.aload_n 0, 1) := by decide +kernel
theorem dX10_copy_209 : decode cX10_copy 209 = .ok (.getfield 63, 3) := by decide +kernel
theorem dX10_copy_212 : decode cX10_copy 212 = .ok (.iload 5, 2) := by decide +kernel
theorem dX10_copy_214 : decode cX10_copy 214 = .ok (.iconst (-1), 1) := by decide +kernel
theorem dX10_copy_215 : decode cX10_copy 215 = .ok (.iastore, 1) := by decide +kernel
theorem dX10_copy_216 : decode cX10_copy 216 = .ok (.iinc 5 1, 3) := by decide +kernel
theorem dX10_copy_219 : decode cX10_copy 219 = .ok (.goto (-18), 3) := by decide +kernel
theorem dX10_copy_222 : decode cX10_copy 222 = .ok (.iconst 0, 1) := by decide +kernel
theorem dX10_copy_223 : decode cX10_copy 223 = .ok (.istore 5, 2) := by decide +kernel
theorem dX10_copy_225 : decode cX10_copy 225 = .ok (.iload 5, 2) := by decide +kernel
theorem dX10_copy_227 : decode cX10_copy 227 = .ok (.iload_n 3, 1) := by decide +kernel
theorem dX10_copy_228 : decode cX10_copy 228 = .ok (.if_icmp .ge 37, 3) := by decide +kernel
theorem dX10_copy_231 : decode cX10_copy 231 = .ok (.aload_n 0, 1) := by decide +kernel
theorem dX10_copy_232 : decode cX10_copy 232 = .ok (.getfield 63, 3) := by decide +kernel
theorem dX10_copy_235 : decode cX10_copy 235 = .ok (.aload_n 0, 1) := by decide +kernel
theorem dX10_copy_236 : decode cX10_copy 236 = .ok (.getfield 66, 3) := by decide +kernel
theorem dX10_copy_239 : decode cX10_copy 239 = .ok (.iload 5, 2) := by decide +kernel
theorem dX10_copy_241 : decode cX10_copy 241 = .ok (.iaload, 1) := by decide +kernel
theorem dX10_copy_242 : decode cX10_copy 242 = .ok (.aload_n 0, 1) := by decide +kernel
theorem dX10_copy_243 : decode cX10_copy 243 = .ok (.aload_n 0, 1) := by decide +kernel
theorem dX10_copy_244 : decode cX10_copy 244 = .ok (.getfield 33, 3) := by decide +kernel
theorem dX10_copy_247 : decode cX10_copy 247 = .ok (.aload_n 0, 1) := by decide +kernel
theorem dX10_copy_248 : decode cX10_copy 248 = .ok (.getfield 66, 3) := by decide +kernel
theorem dX10_copy_251 : decode cX10_copy 251 = .ok (.iload 5, 2) := by decide +kernel
theorem dX10_copy_253 : decode cX10_copy 253 = .ok (.iaload, 1) := by decide +kernel
theorem dX10_copy_254 : decode cX10_copy 254 = .ok (.iaload, 1) := by decide +kernel
theorem dX10_copy_255 : decode cX10_copy 255 = .ok (.invokevirtual 98, 3) := by decide +kernel
theorem dX10_copy_258 : decode cX10_copy 258 = .ok (.iastore, 1) := by decide +kernel
theorem dX10_copy_259 : decode cX10_copy 259 = .ok (.iinc 5 1, 3) := by decide +kernel
theorem dX10_copy_262 : decode cX10_copy 262 = .ok (.goto (-37), 3) := by decide +kernel
theorem dX10_copy_265 : decode cX10_copy 265 = .ok (.iconst 0, 1) := by decide +kernel
theorem dX10_copy_266 : decode cX10_copy 266 = .ok (.istore 5, 2) := by decide +kernel
theorem dX10_copy_268 : decode cX10_copy 268 = .ok (.iload 5, 2) := by decide +kernel
theorem dX10_copy_270 : decode cX10_copy 270 = .ok (.aload_n 0, 1) := by decide +kernel
theorem dX10_copy_271 : decode cX10_copy 271 = .ok (.getfield 85, 3) := by decide +kernel
theorem dX10_copy_274 : decode cX10_copy 274 = .ok (.if_icmp .ge 114, 3) := by decide +kernel
theorem dX10_copy_277 : decode cX10_copy 277 = .ok (.iconst 0, 1) := by decide +kernel
theorem dX10_copy_278 : decode cX10_copy 278 = .ok (.istore 6, 2) := by decide +kernel
theorem dX10_copy_280 : decode cX10_copy 280 = .ok (.iload 6, 2) := by decide +kernel
theorem dX10_copy_282 : decode cX10_copy 282 = .ok (.iload_n 3, 1) := by decide +kernel
theorem dX10_copy_283 : decode cX10_copy 283 = .ok (.if_icmp .ge 22, 3) := by decide +kernel
theorem dX10_copy_286 : decode cX10_copy 286 = .ok (.aload_n 0, 1) := by decide +kernel
theorem dX10_copy_287 : decode cX10_copy 287 = .ok (.iload 5, 2) := by decide +kernel
theorem dX10_copy_289 : decode cX10_copy 289 = .ok (.aload_n 0, 1) := by decide +kernel
theorem dX10_copy_290 : decode cX10_copy 290 = .ok (.getfield 66, 3) := by decide +kernel
theorem dX10_copy_293 : decode cX10_copy 293 = .ok (.iload 6, 2) := by decide +kernel
theorem dX10_copy_295 : decode cX10_copy 295 = .ok (.iaload, 1) := by decide +kernel
theorem dX10_copy_296 : decode cX10_copy 296 = .ok (.invokevirtual 164, 3) := by decide +kernel
theorem dX10_copy_299 : decode cX10_copy 299 = .ok (.iinc 6 1, 3) := by decide +kernel
theorem dX10_copy_302 : decode cX10_copy 302 = .ok (.goto (-22), 3) := by decide +kernel
theorem dX10_copy_305 : decode cX10_copy 305 = .ok (.iconst 0, 1) := by decide +kernel
theorem dX10_copy_306 : decode cX10_copy 306 = .ok (.istore 6, 2) := by decide +kernel
theorem dX10_copy_308 : decode cX10_copy 308 = .ok (.iload 6, 2) := by decide +kernel
theorem dX10_copy_310 : decode cX10_copy 310 = .ok (.bipush 100, 2) := by decide +kernel
theorem dX10_copy_312 : decode cX10_copy 312 = .ok (.if_icmp .ge 70, 3) := by decide +kernel
theorem dX10_copy_315 : decode cX10_copy 315 = .ok (.aload_n 0, 1) := by decide +kernel
theorem dX10_copy_316 : decode cX10_copy 316 = .ok (.getfield 63, 3) := by decide +kernel
theorem dX10_copy_319 : decode cX10_copy 319 = .ok (.iload 6, 2) := by decide +kernel
theorem dX10_copy_321 : decode cX10_copy 321 = .ok (.iaload, 1) := by decide +kernel
theorem dX10_copy_322 : decode cX10_copy 322 = .ok (.ifCond .lt 14, 3) := by decide +kernel
theorem dX10_copy_325 : decode cX10_copy 325 = .ok (.aload_n 0, 1) := by decide +kernel
theorem dX10_copy_326 : decode cX10_copy 326 = .ok (.iload 5, 2) := by decide +kernel
theorem dX10_copy_328 : decode cX10_copy 328 = .ok (.iload 6, 2) := by decide +kernel
theorem dX10_copy_330 : decode cX10_copy 330 = .ok (.invokevirtual 168, 3) := by decide +kernel
theorem dX10_copy_333 : decode cX10_copy 333 = .ok (.goto 43, 3) := by decide +kernel
theorem dX10_copy_336 : decode cX10_copy 336 = .ok (.aload_n 0, 1) := by decide +kernel
theorem dX10_copy_337 : decode cX10_copy 337 = .ok (.getfield 26, 3) := by decide +kernel
theorem dX10_copy_340 : decode cX10_copy 340 = .ok (.iload 6, 2) := by decide +kernel
theorem dX10_copy_342 : decode cX10_copy 342 = .ok (.baload, 1) := by decide +kernel
theorem dX10_copy_343 : decode cX10_copy 343 = .ok (.ifCond .eq 33, 3) := by decide +kernel
theorem dX10_copy_346 : decode cX10_copy 346 = .ok (.aload_n 0, 1) := by decide +kernel
theorem dX10_copy_347 : decode cX10_copy 347 = .ok (.getfield 23, 3) := by decide +kernel
theorem dX10_copy_350 : decode cX10_copy 350 = .ok (.iload 5, 2) := by decide +kernel
theorem dX10_copy_352 : decode cX10_copy 352 = .ok (.iaload, 1) := by decide +kernel
theorem dX10_copy_353 : decode cX10_copy 353 = .ok (.iconst 1, 1) := by decide +kernel
theorem dX10_copy_354 : decode cX10_copy 354 = .ok (.if_icmp .eq 22, 3) := by decide +kernel
theorem dX10_copy_357 : decode cX10_copy 357 = .ok (.aload_n 0, 1) := by decide +kernel
theorem dX10_copy_358 : decode cX10_copy 358 = .ok (.getfield 20, 3) := by decide +kernel
theorem dX10_copy_361 : decode cX10_copy 361 = .ok (.iload 5, 2) := by decide +kernel
theorem dX10_copy_363 : decode cX10_copy 363 = .ok (.iaload, 1) := by decide +kernel
theorem dX10_copy_364 : decode cX10_copy 364 = .ok (.iconst 2, 1) := by decide +kernel
theorem dX10_copy_365 : decode cX10_copy 365 = .ok (.if_icmp .ne 11, 3) := by decide +kernel
theorem dX10_copy_368 : decode cX10_copy 368 = .ok (.aload_n 0, 1) := by decide +kernel
theorem dX10_copy_369 : decode cX10_copy 369 = .ok (.iload 5, 2) := by decide +kernel
theorem dX10_copy_371 : decode cX10_copy 371 = .ok (.iload 6, 2) := by decide +kernel
theorem dX10_copy_373 : decode cX10_copy 373 = .ok (.invokevirtual 171, 3) := by decide +kernel
theorem dX10_copy_376 : decode cX10_copy 376 = .ok (.iinc 6 1, 3) := by decide +kernel
theorem dX10_copy_379 : decode cX10_copy 379 = .ok (.goto (-71), 3) := by decide +kernel
theorem dX10_copy_382 : decode cX10_copy 382 = .ok (.iinc 5 1, 3) := by decide +kernel
theorem dX10_copy_385 : decode cX10_copy 385 = .ok (.goto (-117), 3) := by decide +kernel
theorem dX10_copy_388 : decode cX10_copy 388 = .ok (.aload_n 0, 1) := by decide +kernel
theorem dX10_copy_389 : decode cX10_copy 389 = .ok (.getfield 30, 3) := by decide +kernel
theorem dX10_copy_392 : decode cX10_copy 392 = .ok (.aload_n 0, 1) := by decide +kernel
theorem dX10_copy_393 : decode cX10_copy 393 = .ok (.getfield 63, 3) := by decide +kernel
theorem dX10_copy_396 : decode cX10_copy 396 = .ok (.iload_n 2, 1) := by decide +kernel
theorem dX10_copy_397 : decode cX10_copy 397 = .ok (.iaload, 1) := by decide +kernel
theorem dX10_copy_398 : decode cX10_copy 398 = .ok (.iaload, 1) := by decide +kernel
theorem dX10_copy_399 : decode cX10_copy 399 = .ok (.ireturn, 1) := by decide +kernel
theorem dX10_copyRow_0 : decode cX10_copyRow 0 = .ok (.iload_n 1, 1) := by decide +kernel
theorem dX10_copyRow_1 : decode cX10_copyRow 1 = .ok (.bipush 100, 2) := by decide +kernel
theorem dX10_copyRow_3 : decode cX10_copyRow 3 = .ok (.imul, 1) := by decide +kernel
theorem dX10_copyRow_4 : decode cX10_copyRow 4 = .ok (.iload_n 2, 1) := by decide +kernel
theorem dX10_copyRow_5 : decode cX10_copyRow 5 = .ok (.iadd, 1) := by decide +kernel
theorem dX10_copyRow_6 : decode cX10_copyRow 6 = .ok (.istore_n 3, 1) := by decide +kernel
theorem dX10_copyRow_7 : decode cX10_copyRow 7 = .ok (.iload_n 1, 1) := by decide +kernel
theorem dX10_copyRow_8 : decode cX10_copyRow 8 = .ok (.bipush 100, 2) := by decide +kernel
theorem dX10_copyRow_10 : decode cX10_copyRow 10 = .ok (.imul, 1) := by decide +kernel
theorem dX10_copyRow_11 : decode cX10_copyRow 11 = .ok (.aload_n 0, 1) := by decide +kernel
theorem dX10_copyRow_12 : decode cX10_copyRow 12 = .ok (.getfield 63, 3) := by decide +kernel
theorem dX10_copyRow_15 : decode cX10_copyRow 15 = .ok (.iload_n 2, 1) := by decide +kernel
theorem dX10_copyRow_16 : decode cX10_copyRow 16 = .ok (.iaload, 1) := by decide +kernel
theorem dX10_copyRow_17 : decode cX10_copyRow 17 = .ok (.iadd, 1) := by decide +kernel
theorem dX10_copyRow_18 : decode cX10_copyRow 18 = .ok (.istore 4, 2) := by decide +kernel
theorem dX10_copyRow_20 : decode cX10_copyRow 20 = .ok (.iconst 0, 1) := by decide +kernel
theorem dX10_copyRow_21 : decode cX10_copyRow 21 = .ok (.istore 5, 2) := by decide +kernel
theorem dX10_copyRow_23 : decode cX10_copyRow 23 = .ok (.iload 5, 2) := by decide +kernel
theorem dX10_copyRow_25 : decode cX10_copyRow 25 = .ok (.aload_n 0, 1) := by decide +kernel
theorem dX10_copyRow_26 : decode cX10_copyRow 26 = .ok (.getfield 36, 3) := by decide +kernel
theorem dX10_copyRow_29 : decode cX10_copyRow 29 = .ok (.iload_n 3, 1) := by decide +kernel
theorem dX10_copyRow_30 : decode cX10_copyRow 30 = .ok (.iaload, 1) := by decide +kernel
theorem dX10_copyRow_31 : decode cX10_copyRow 31 = .ok (.if_icmp .ge 107, 3) := by decide +kernel
theorem dX10_copyRow_34 : decode cX10_copyRow 34 = .ok (.aload_n 0, 1) := by decide +kernel
theorem dX10_copyRow_35 : decode cX10_copyRow 35 = .ok (.getfield 42, 3) := by decide +kernel
theorem dX10_copyRow_38 : decode cX10_copyRow 38 = .ok (.iload_n 3, 1) := by decide +kernel
theorem dX10_copyRow_39 : decode cX10_copyRow 39 = .ok (.bipush 12, 2) := by decide +kernel
theorem dX10_copyRow_41 : decode cX10_copyRow 41 = .ok (.imul, 1) := by decide +kernel
theorem dX10_copyRow_42 : decode cX10_copyRow 42 = .ok (.iload 5, 2) := by decide +kernel
theorem dX10_copyRow_44 : decode cX10_copyRow 44 = .ok (.iadd, 1) := by decide +kernel
theorem dX10_copyRow_45 : decode cX10_copyRow 45 = .ok (.iaload, 1) := by decide +kernel
theorem dX10_copyRow_46 : decode cX10_copyRow 46 = .ok (.istore 6, 2) := by decide +kernel
theorem dX10_copyRow_48 : decode cX10_copyRow 48 = .ok (.aload_n 0, 1) := by decide +kernel
theorem dX10_copyRow_49 : decode cX10_copyRow 49 = .ok (.getfield 63, 3) := by decide +kernel
theorem dX10_copyRow_52 : decode cX10_copyRow 52 = .ok (.iload 6, 2) := by decide +kernel
theorem dX10_copyRow_54 : decode cX10_copyRow 54 = .ok (.iaload, 1) := by decide +kernel
theorem dX10_copyRow_55 : decode cX10_copyRow 55 = .ok (.ifCond .lt 34, 3) := by decide +kernel
theorem dX10_copyRow_58 : decode cX10_copyRow 58 = .ok (.aload_n 0, 1) := by decide +kernel
theorem dX10_copyRow_59 : decode cX10_copyRow 59 = .ok (.aload_n 0, 1) := by decide +kernel
theorem dX10_copyRow_60 : decode cX10_copyRow 60 = .ok (.getfield 42, 3) := by decide +kernel
theorem dX10_copyRow_63 : decode cX10_copyRow 63 = .ok (.aload_n 0, 1) := by decide +kernel
theorem dX10_copyRow_64 : decode cX10_copyRow 64 = .ok (.getfield 36, 3) := by decide +kernel
theorem dX10_copyRow_67 : decode cX10_copyRow 67 = .ok (.iload 4, 2) := by decide +kernel
theorem dX10_copyRow_69 : decode cX10_copyRow 69 = .ok (.aload_n 0, 1) := by decide +kernel
theorem dX10_copyRow_70 : decode cX10_copyRow 70 = .ok (.getfield 36, 3) := by decide +kernel
theorem dX10_copyRow_73 : decode cX10_copyRow 73 = .ok (.iload 4, 2) := by decide +kernel
theorem dX10_copyRow_75 : decode cX10_copyRow 75 = .ok (.iaload, 1) := by decide +kernel
theorem dX10_copyRow_76 : decode cX10_copyRow 76 = .ok (.aload_n 0, 1) := by decide +kernel
theorem dX10_copyRow_77 : decode cX10_copyRow 77 = .ok (.getfield 63, 3) := by decide +kernel
theorem dX10_copyRow_80 : decode cX10_copyRow 80 = .ok (.iload 6, 2) := by decide +kernel
theorem dX10_copyRow_82 : decode cX10_copyRow 82 = .ok (.iaload, 1) := by decide +kernel
theorem dX10_copyRow_83 : decode cX10_copyRow 83 = .ok (.invokevirtual 131, 3) := by decide +kernel
theorem dX10_copyRow_86 : decode cX10_copyRow 86 = .ok (.goto 46, 3) := by decide +kernel
theorem dX10_copyRow_89 : decode cX10_copyRow 89 = .ok (.aload_n 0, 1) := by decide +kernel
theorem dX10_copyRow_90 : decode cX10_copyRow 90 = .ok (.getfield 23, 3) := by decide +kernel
theorem dX10_copyRow_93 : decode cX10_copyRow 93 = .ok (.iload_n 1, 1) := by decide +kernel
theorem dX10_copyRow_94 : decode cX10_copyRow 94 = .ok (.iaload, 1) := by decide +kernel
theorem dX10_copyRow_95 : decode cX10_copyRow 95 = .ok (.iconst 1, 1) := by decide +kernel
theorem dX10_copyRow_96 : decode cX10_copyRow 96 = .ok (.if_icmp .eq 36, 3) := by decide +kernel
theorem dX10_copyRow_99 : decode cX10_copyRow 99 = .ok (.aload_n 0, 1) := by decide +kernel
theorem dX10_copyRow_100 : decode cX10_copyRow 100 = .ok (.getfield 20, 3) := by decide +kernel
theorem dX10_copyRow_103 : decode cX10_copyRow 103 = .ok (.iload_n 1, 1) := by decide +kernel
theorem dX10_copyRow_104 : decode cX10_copyRow 104 = .ok (.iaload, 1) := by decide +kernel
theorem dX10_copyRow_105 : decode cX10_copyRow 105 = .ok (.iconst 2, 1) := by decide +kernel
theorem dX10_copyRow_106 : decode cX10_copyRow 106 = .ok (.if_icmp .ne 26, 3) := by decide +kernel
theorem dX10_copyRow_109 : decode cX10_copyRow 109 = .ok (.aload_n 0, 1) := by decide +kernel
theorem dX10_copyRow_110 : decode cX10_copyRow 110 = .ok (.aload_n 0, 1) := by decide +kernel
theorem dX10_copyRow_111 : decode cX10_copyRow 111 = .ok (.getfield 42, 3) := by decide +kernel
theorem dX10_copyRow_114 : decode cX10_copyRow 114 = .ok (.aload_n 0, 1) := by decide +kernel
theorem dX10_copyRow_115 : decode cX10_copyRow 115 = .ok (.getfield 36, 3) := by decide +kernel
theorem dX10_copyRow_118 : decode cX10_copyRow 118 = .ok (.iload 4, 2) := by decide +kernel
theorem dX10_copyRow_120 : decode cX10_copyRow 120 = .ok (.aload_n 0, 1) := by decide +kernel
theorem dX10_copyRow_121 : decode cX10_copyRow 121 = .ok (.getfield 36, 3) := by decide +kernel
theorem dX10_copyRow_124 : decode cX10_copyRow 124 = .ok (.iload 4, 2) := by decide +kernel
theorem dX10_copyRow_126 : decode cX10_copyRow 126 = .ok (.iaload, 1) := by decide +kernel
theorem dX10_copyRow_127 : decode cX10_copyRow 127 = .ok (.iload 6, 2) := by decide +kernel
theorem dX10_copyRow_129 : decode cX10_copyRow 129 = .ok (.invokevirtual 131, 3) := by decide +kernel
theorem dX10_copyRow_132 : decode cX10_copyRow 132 = .ok (.iinc 5 1, 3) := by decide +kernel
theorem dX10_copyRow_135 : decode cX10_copyRow 135 = .ok (.goto (-112), 3) := by decide +kernel
theorem dX10_copyRow_138 : decode cX10_copyRow 138 = .ok (.return_, 1) := by decide +kernel
theorem dX10_copyBack_0 : decode cX10_copyBack 0 = .ok (.iload_n 1, 1) := by decide +kernel
theorem dX10_copyBack_1 : decode cX10_copyBack 1 = .ok (.bipush 100, 2) := by decide +kernel
theorem dX10_copyBack_3 : decode cX10_copyBack 3 = .ok (.imul, 1) := by decide +kernel
theorem dX10_copyBack_4 : decode cX10_copyBack 4 = .ok (.iload_n 2, 1) := by decide +kernel
theorem dX10_copyBack_5 : decode cX10_copyBack 5 = .ok (.iadd, 1) := by decide +kernel
theorem dX10_copyBack_6 : decode cX10_copyBack 6 = .ok (.istore_n 3, 1) := by decide +kernel
theorem dX10_copyBack_7 : decode cX10_copyBack 7 = .ok (.iload_n 1, 1) := by decide +kernel
theorem dX10_copyBack_8 : decode cX10_copyBack 8 = .ok (.bipush 100, 2) := by decide +kernel
theorem dX10_copyBack_10 : decode cX10_copyBack 10 = .ok (.imul, 1) := by decide +kernel
theorem dX10_copyBack_11 : decode cX10_copyBack 11 = .ok (.aload_n 0, 1) := by decide +kernel
theorem dX10_copyBack_12 : decode cX10_copyBack 12 = .ok (.getfield 63, 3) := by decide +kernel
theorem dX10_copyBack_15 : decode cX10_copyBack 15 = .ok (.iload_n 2, 1) := by decide +kernel
theorem dX10_copyBack_16 : decode cX10_copyBack 16 = .ok (.iaload, 1) := by decide +kernel
theorem dX10_copyBack_17 : decode cX10_copyBack 17 = .ok (.iadd, 1) := by decide +kernel
theorem dX10_copyBack_18 : decode cX10_copyBack 18 = .ok (.istore 4, 2) := by decide +kernel
theorem dX10_copyBack_20 : decode cX10_copyBack 20 = .ok (.iconst 0, 1) := by decide +kernel
theorem dX10_copyBack_21 : decode cX10_copyBack 21 = .ok (.istore 5, 2) := by decide +kernel
theorem dX10_copyBack_23 : decode cX10_copyBack 23 = .ok (.iload 5, 2) := by decide +kernel
theorem dX10_copyBack_25 : decode cX10_copyBack 25 = .ok (.aload_n 0, 1) := by decide +kernel
theorem dX10_copyBack_26 : decode cX10_copyBack 26 = .ok (.getfield 39, 3) := by decide +kernel
theorem dX10_copyBack_29 : decode cX10_copyBack 29 = .ok (.iload_n 3, 1) := by decide +kernel
theorem dX10_copyBack_30 : decode cX10_copyBack 30 = .ok (.iaload, 1) := by decide +kernel
theorem dX10_copyBack_31 : decode cX10_copyBack 31 = .ok (.if_icmp .ge 61, 3) := by decide +kernel
theorem dX10_copyBack_34 : decode cX10_copyBack 34 = .ok (.aload_n 0, 1) := by decide +kernel
theorem dX10_copyBack_35 : decode cX10_copyBack 35 = .ok (.getfield 45, 3) := by decide +kernel
theorem dX10_copyBack_38 : decode cX10_copyBack 38 = .ok (.iload_n 3, 1) := by decide +kernel
theorem dX10_copyBack_39 : decode cX10_copyBack 39 = .ok (.bipush 12, 2) := by decide +kernel
theorem dX10_copyBack_41 : decode cX10_copyBack 41 = .ok (.imul, 1) := by decide +kernel
theorem dX10_copyBack_42 : decode cX10_copyBack 42 = .ok (.iload 5, 2) := by decide +kernel
theorem dX10_copyBack_44 : decode cX10_copyBack 44 = .ok (.iadd, 1) := by decide +kernel
theorem dX10_copyBack_45 : decode cX10_copyBack 45 = .ok (.iaload, 1) := by decide +kernel
theorem dX10_copyBack_46 : decode cX10_copyBack 46 = .ok (.istore 6, 2) := by decide +kernel
theorem dX10_copyBack_48 : decode cX10_copyBack 48 = .ok (.aload_n 0, 1) := by decide +kernel
theorem dX10_copyBack_49 : decode cX10_copyBack 49 = .ok (.getfield 63, 3) := by decide +kernel
theorem dX10_copyBack_52 : decode cX10_copyBack 52 = .ok (.iload 6, 2) := by decide +kernel
theorem dX10_copyBack_54 : decode cX10_copyBack 54 = .ok (.iaload, 1) := by decide +kernel
theorem dX10_copyBack_55 : decode cX10_copyBack 55 = .ok (.ifCond .lt 31, 3) := by decide +kernel
theorem dX10_copyBack_58 : decode cX10_copyBack 58 = .ok (.aload_n 0, 1) := by decide +kernel
theorem dX10_copyBack_59 : decode cX10_copyBack 59 = .ok (.aload_n 0, 1) := by decide +kernel
theorem dX10_copyBack_60 : decode cX10_copyBack 60 = .ok (.getfield 45, 3) := by decide +kernel
theorem dX10_copyBack_63 : decode cX10_copyBack 63 = .ok (.aload_n 0, 1) := by decide +kernel
theorem dX10_copyBack_64 : decode cX10_copyBack 64 = .ok (.getfield 39, 3) := by decide +kernel
theorem dX10_copyBack_67 : decode cX10_copyBack 67 = .ok (.iload 4, 2) := by decide +kernel
theorem dX10_copyBack_69 : decode cX10_copyBack 69 = .ok (.aload_n 0, 1) := by decide +kernel
theorem dX10_copyBack_70 : decode cX10_copyBack 70 = .ok (.getfield 39, 3) := by decide +kernel
theorem dX10_copyBack_73 : decode cX10_copyBack 73 = .ok (.iload 4, 2) := by decide +kernel
theorem dX10_copyBack_75 : decode cX10_copyBack 75 = .ok (.iaload, 1) := by decide +kernel
theorem dX10_copyBack_76 : decode cX10_copyBack 76 = .ok (.aload_n 0, 1) := by decide +kernel
theorem dX10_copyBack_77 : decode cX10_copyBack 77 = .ok (.getfield 63, 3) := by decide +kernel
theorem dX10_copyBack_80 : decode cX10_copyBack 80 = .ok (.iload 6, 2) := by decide +kernel
theorem dX10_copyBack_82 : decode cX10_copyBack 82 = .ok (.iaload, 1) := by decide +kernel
theorem dX10_copyBack_83 : decode cX10_copyBack 83 = .ok (.invokevirtual 131, 3) := by decide +kernel
theorem dX10_copyBack_86 : decode cX10_copyBack 86 = .ok (.iinc 5 1, 3) := by decide +kernel
theorem dX10_copyBack_89 : decode cX10_copyBack 89 = .ok (.goto (-66), 3) := by decide +kernel
theorem dX10_copyBack_92 : decode cX10_copyBack 92 = .ok (.return_, 1) := by decide +kernel
theorem dX10_copyBeside_0 : decode cX10_copyBeside 0 = .ok (.iload_n 1, 1) := by decide +kernel
theorem dX10_copyBeside_1 : decode cX10_copyBeside 1 = .ok (.bipush 100, 2) := by decide +kernel
theorem dX10_copyBeside_3 : decode cX10_copyBeside 3 = .ok (.imul, 1) := by decide +kernel
theorem dX10_copyBeside_4 : decode cX10_copyBeside 4 = .ok (.iload_n 2, 1) := by decide +kernel
theorem dX10_copyBeside_5 : decode cX10_copyBeside 5 = .ok (.iadd, 1) := by decide +kernel
theorem dX10_copyBeside_6 : decode cX10_copyBeside 6 = .ok (.istore_n 3, 1) := by decide +kernel
theorem dX10_copyBeside_7 : decode cX10_copyBeside 7 = .ok (.aload_n 0, 1) := by decide +kernel
theorem dX10_copyBeside_8 : decode cX10_copyBeside 8 = .ok (.getfield 39, 3) := by decide +kernel
theorem dX10_copyBeside_11 : decode cX10_copyBeside 11 = .ok (.iload_n 3, 1) := by decide +kernel
theorem dX10_copyBeside_12 : decode cX10_copyBeside 12 = .ok (.iaload, 1) := by decide +kernel
theorem dX10_copyBeside_13 : decode cX10_copyBeside 13 = .ok (.istore 4, 2) := by decide +kernel
theorem dX10_copyBeside_15 : decode cX10_copyBeside 15 = .ok (.iconst 0, 1) := by decide +kernel
theorem dX10_copyBeside_16 : decode cX10_copyBeside 16 = .ok (.istore 5, 2) := by decide +kernel
theorem dX10_copyBeside_18 : decode cX10_copyBeside 18 = .ok (.iload 5, 2) := by decide +kernel
theorem dX10_copyBeside_20 : decode cX10_copyBeside 20 = .ok (.iload 4, 2) := by decide +kernel
theorem dX10_copyBeside_22 : decode cX10_copyBeside 22 = .ok (.if_icmp .ge 59, 3) := by decide +kernel
theorem dX10_copyBeside_25 : decode cX10_copyBeside 25 = .ok (.aload_n 0, 1) := by decide +kernel
theorem dX10_copyBeside_26 : decode cX10_copyBeside 26 = .ok (.getfield 45, 3) := by decide +kernel
theorem dX10_copyBeside_29 : decode cX10_copyBeside 29 = .ok (.iload_n 3, 1) := by decide +kernel
theorem dX10_copyBeside_30 : decode cX10_copyBeside 30 = .ok (.bipush 12, 2) := by decide +kernel
theorem dX10_copyBeside_32 : decode cX10_copyBeside 32 = .ok (.imul, 1) := by decide +kernel
theorem dX10_copyBeside_33 : decode cX10_copyBeside 33 = .ok (.iload 5, 2) := by decide +kernel
theorem dX10_copyBeside_35 : decode cX10_copyBeside 35 = .ok (.iadd, 1) := by decide +kernel
theorem dX10_copyBeside_36 : decode cX10_copyBeside 36 = .ok (.iaload, 1) := by decide +kernel
theorem dX10_copyBeside_37 : decode cX10_copyBeside 37 = .ok (.istore 6, 2) := by decide +kernel
theorem dX10_copyBeside_39 : decode cX10_copyBeside 39 = .ok (.aload_n 0, 1) := by decide +kernel
theorem dX10_copyBeside_40 : decode cX10_copyBeside 40 = .ok (.getfield 63, 3) := by decide +kernel
theorem dX10_copyBeside_43 : decode cX10_copyBeside 43 = .ok (.iload 6, 2) := by decide +kernel
theorem dX10_copyBeside_45 : decode cX10_copyBeside 45 = .ok (.iaload, 1) := by decide +kernel
theorem dX10_copyBeside_46 : decode cX10_copyBeside 46 = .ok (.ifCond .lt 29, 3) := by decide +kernel
theorem dX10_copyBeside_49 : decode cX10_copyBeside 49 = .ok (.aload_n 0, 1) := by decide +kernel
theorem dX10_copyBeside_50 : decode cX10_copyBeside 50 = .ok (.aload_n 0, 1) := by decide +kernel
theorem dX10_copyBeside_51 : decode cX10_copyBeside 51 = .ok (.getfield 45, 3) := by decide +kernel
theorem dX10_copyBeside_54 : decode cX10_copyBeside 54 = .ok (.aload_n 0, 1) := by decide +kernel
theorem dX10_copyBeside_55 : decode cX10_copyBeside 55 = .ok (.getfield 39, 3) := by decide +kernel
theorem dX10_copyBeside_58 : decode cX10_copyBeside 58 = .ok (.iload_n 3, 1) := by decide +kernel
theorem dX10_copyBeside_59 : decode cX10_copyBeside 59 = .ok (.aload_n 0, 1) := by decide +kernel
theorem dX10_copyBeside_60 : decode cX10_copyBeside 60 = .ok (.getfield 39, 3) := by decide +kernel
theorem dX10_copyBeside_63 : decode cX10_copyBeside 63 = .ok (.iload_n 3, 1) := by decide +kernel
theorem dX10_copyBeside_64 : decode cX10_copyBeside 64 = .ok (.iaload, 1) := by decide +kernel
theorem dX10_copyBeside_65 : decode cX10_copyBeside 65 = .ok (.aload_n 0, 1) := by decide +kernel
theorem dX10_copyBeside_66 : decode cX10_copyBeside 66 = .ok (.getfield 63, 3) := by decide +kernel
theorem dX10_copyBeside_69 : decode cX10_copyBeside 69 = .ok (.iload 6, 2) := by decide +kernel
theorem dX10_copyBeside_71 : decode cX10_copyBeside 71 = .ok (.iaload, 1) := by decide +kernel
theorem dX10_copyBeside_72 : decode cX10_copyBeside 72 = .ok (.invokevirtual 131, 3) := by decide +kernel
theorem dX10_copyBeside_75 : decode cX10_copyBeside 75 = .ok (.iinc 5 1, 3) := by decide +kernel
theorem dX10_copyBeside_78 : decode cX10_copyBeside 78 = .ok (.goto (-60), 3) := by decide +kernel
theorem dX10_copyBeside_81 : decode cX10_copyBeside 81 = .ok (.return_, 1) := by decide +kernel
theorem dX10_isAlikeAtOnce_0 : decode cX10_isAlikeAtOnce 0 = .ok (.aload_n 0, 1) := by decide +kernel
theorem dX10_isAlikeAtOnce_1 : decode cX10_isAlikeAtOnce 1 = .ok (.getfield 33, 3) := by decide +kernel
theorem dX10_isAlikeAtOnce_4 : decode cX10_isAlikeAtOnce 4 = .ok (.iload_n 1, 1) := by decide +kernel
theorem dX10_isAlikeAtOnce_5 : decode cX10_isAlikeAtOnce 5 = .ok (.iaload, 1) := by decide +kernel
theorem dX10_isAlikeAtOnce_6 : decode cX10_isAlikeAtOnce 6 = .ok (.aload_n 0, 1) := by decide +kernel
theorem dX10_isAlikeAtOnce_7 : decode cX10_isAlikeAtOnce 7 = .ok (.getfield 33, 3) := by decide +kernel
theorem dX10_isAlikeAtOnce_10 : decode cX10_isAlikeAtOnce 10 = .ok (.iload_n 2, 1) := by decide +kernel
theorem dX10_isAlikeAtOnce_11 : decode cX10_isAlikeAtOnce 11 = .ok (.iaload, 1) := by decide +kernel
theorem dX10_isAlikeAtOnce_12 : decode cX10_isAlikeAtOnce 12 = .ok (.if_icmp .eq 5, 3) := by decide +kernel
theorem dX10_isAlikeAtOnce_15 : decode cX10_isAlikeAtOnce 15 = .ok (.iconst 0, 1) := by decide +kernel
theorem dX10_isAlikeAtOnce_16 : decode cX10_isAlikeAtOnce 16 = .ok (.ireturn, 1) := by decide +kernel
theorem dX10_isAlikeAtOnce_17 : decode cX10_isAlikeAtOnce 17 = .ok (.iconst 0, 1) := by decide +kernel
theorem dX10_isAlikeAtOnce_18 : decode cX10_isAlikeAtOnce 18 = .ok (.istore_n 3, 1) := by decide +kernel
theorem dX10_isAlikeAtOnce_19 : decode cX10_isAlikeAtOnce 19 = .ok (.iload_n 3, 1) := by decide +kernel
theorem dX10_isAlikeAtOnce_20 : decode cX10_isAlikeAtOnce 20 = .ok (.aload_n 0, 1) := by decide +kernel
theorem dX10_isAlikeAtOnce_21 : decode cX10_isAlikeAtOnce 21 = .ok (.getfield 85, 3) := by decide +kernel
theorem dX10_isAlikeAtOnce_24 : decode cX10_isAlikeAtOnce 24 = .ok (.if_icmp .ge 46, 3) := by decide +kernel
theorem dX10_isAlikeAtOnce_27 : decode cX10_isAlikeAtOnce 27 = .ok (.aload_n 0, 1) := by decide +kernel
theorem dX10_isAlikeAtOnce_28 : decode cX10_isAlikeAtOnce 28 = .ok (.getfield 23, 3) := by decide +kernel
theorem dX10_isAlikeAtOnce_31 : decode cX10_isAlikeAtOnce 31 = .ok (.iload_n 3, 1) := by decide +kernel
theorem dX10_isAlikeAtOnce_32 : decode cX10_isAlikeAtOnce 32 = .ok (.iaload, 1) := by decide +kernel
theorem dX10_isAlikeAtOnce_33 : decode cX10_isAlikeAtOnce 33 = .ok (.iconst 1, 1) := by decide +kernel
theorem dX10_isAlikeAtOnce_34 : decode cX10_isAlikeAtOnce 34 = .ok (.if_icmp .ne 30, 3) := by decide +kernel
theorem dX10_isAlikeAtOnce_37 : decode cX10_isAlikeAtOnce 37 = .ok (.aload_n 0, 1) := by decide +kernel
theorem dX10_isAlikeAtOnce_38 : decode cX10_isAlikeAtOnce 38 = .ok (.getfield 36, 3) := by decide +kernel
theorem dX10_isAlikeAtOnce_41 : decode cX10_isAlikeAtOnce 41 = .ok (.iload_n 3, 1) := by decide +kernel
theorem dX10_isAlikeAtOnce_42 : decode cX10_isAlikeAtOnce 42 = .ok (.bipush 100, 2) := by decide +kernel
theorem dX10_isAlikeAtOnce_44 : decode cX10_isAlikeAtOnce 44 = .ok (.imul, 1) := by decide +kernel
theorem dX10_isAlikeAtOnce_45 : decode cX10_isAlikeAtOnce 45 = .ok (.iload_n 1, 1) := by decide +kernel
theorem dX10_isAlikeAtOnce_46 : decode cX10_isAlikeAtOnce 46 = .ok (.iadd, 1) := by decide +kernel
theorem dX10_isAlikeAtOnce_47 : decode cX10_isAlikeAtOnce 47 = .ok (.iaload, 1) := by decide +kernel
theorem dX10_isAlikeAtOnce_48 : decode cX10_isAlikeAtOnce 48 = .ok (.aload_n 0, 1) := by decide +kernel
theorem dX10_isAlikeAtOnce_49 : decode cX10_isAlikeAtOnce 49 = .ok (.getfield 36, 3) := by decide +kernel
theorem dX10_isAlikeAtOnce_52 : decode cX10_isAlikeAtOnce 52 = .ok (.iload_n 3, 1) := by decide +kernel
theorem dX10_isAlikeAtOnce_53 : decode cX10_isAlikeAtOnce 53 = .ok (.bipush 100, 2) := by decide +kernel
theorem dX10_isAlikeAtOnce_55 : decode cX10_isAlikeAtOnce 55 = .ok (.imul, 1) := by decide +kernel
theorem dX10_isAlikeAtOnce_56 : decode cX10_isAlikeAtOnce 56 = .ok (.iload_n 2, 1) := by decide +kernel
theorem dX10_isAlikeAtOnce_57 : decode cX10_isAlikeAtOnce 57 = .ok (.iadd, 1) := by decide +kernel
theorem dX10_isAlikeAtOnce_58 : decode cX10_isAlikeAtOnce 58 = .ok (.iaload, 1) := by decide +kernel
theorem dX10_isAlikeAtOnce_59 : decode cX10_isAlikeAtOnce 59 = .ok (.if_icmp .eq 5, 3) := by decide +kernel
theorem dX10_isAlikeAtOnce_62 : decode cX10_isAlikeAtOnce 62 = .ok (.iconst 0, 1) := by decide +kernel
theorem dX10_isAlikeAtOnce_63 : decode cX10_isAlikeAtOnce 63 = .ok (.ireturn, 1) := by decide +kernel
theorem dX10_isAlikeAtOnce_64 : decode cX10_isAlikeAtOnce 64 = .ok (.iinc 3 1, 3) := by decide +kernel
theorem dX10_isAlikeAtOnce_67 : decode cX10_isAlikeAtOnce 67 = .ok (.goto (-48), 3) := by decide +kernel
theorem dX10_isAlikeAtOnce_70 : decode cX10_isAlikeAtOnce 70 = .ok (.iconst 1, 1) := by decide +kernel
theorem dX10_isAlikeAtOnce_71 : decode cX10_isAlikeAtOnce 71 = .ok (.ireturn, 1) := by decide +kernel
theorem dX10_openPart_0 : decode cX10_openPart 0 = .ok (.iconst 0, 1) := by decide +kernel
theorem dX10_openPart_1 : decode cX10_openPart 1 = .ok (.istore_n 3, 1) := by decide +kernel
theorem dX10_openPart_2 : decode cX10_openPart 2 = .ok (.iload_n 3, 1) := by decide +kernel
theorem dX10_openPart_3 : decode cX10_openPart 3 = .ok (.aload_n 0, 1) := by decide +kernel
theorem dX10_openPart_4 : decode cX10_openPart 4 = .ok (.getfield 85, 3) := by decide +kernel
theorem dX10_openPart_7 : decode cX10_openPart 7 = .ok (.if_icmp .ge 105, 3) := by decide +kernel
theorem dX10_openPart_10 : decode cX10_openPart 10 = .ok (.aload_n 0, 1) := by decide +kernel
theorem dX10_openPart_11 : decode cX10_openPart 11 = .ok (.getfield 23, 3) := by decide +kernel
theorem dX10_openPart_14 : decode cX10_openPart 14 = .ok (.iload_n 3, 1) := by decide +kernel
theorem dX10_openPart_15 : decode cX10_openPart 15 = .ok (.iaload, 1) := by decide +kernel
theorem dX10_openPart_16 : decode cX10_openPart 16 = .ok (.iconst 1, 1) := by decide +kernel
theorem dX10_openPart_17 : decode cX10_openPart 17 = .ok (.if_icmp .eq 6, 3) := by decide +kernel
theorem dX10_openPart_20 : decode cX10_openPart 20 = .ok (.goto 86, 3) := by decide +kernel
theorem dX10_openPart_23 : decode cX10_openPart 23 = .ok (.iload_n 3, 1) := by decide +kernel
theorem dX10_openPart_24 : decode cX10_openPart 24 = .ok (.bipush 100, 2) := by decide +kernel
theorem dX10_openPart_26 : decode cX10_openPart 26 = .ok (.imul, 1) := by decide +kernel
theorem dX10_openPart_27 : decode cX10_openPart 27 = .ok (.iload_n 1, 1) := by decide +kernel
theorem dX10_openPart_28 : decode cX10_openPart 28 = .ok (.iadd, 1) := by decide +kernel
theorem dX10_openPart_29 : decode cX10_openPart 29 = .ok (.istore 4, 2) := by decide +kernel
theorem dX10_openPart_31 : decode cX10_openPart 31 = .ok (.iload_n 3, 1) := by decide +kernel
theorem dX10_openPart_32 : decode cX10_openPart 32 = .ok (.bipush 100, 2) := by decide +kernel
theorem dX10_openPart_34 : decode cX10_openPart 34 = .ok (.imul, 1) := by decide +kernel
theorem dX10_openPart_35 : decode cX10_openPart 35 = .ok (.iload_n 2, 1) := by decide +kernel
theorem dX10_openPart_36 : decode cX10_openPart 36 = .ok (.iadd, 1) := by decide +kernel
theorem dX10_openPart_37 : decode cX10_openPart 37 = .ok (.istore 5, 2) := by decide +kernel
theorem dX10_openPart_39 : decode cX10_openPart 39 = .ok (.iconst 0, 1) := by decide +kernel
theorem dX10_openPart_40 : decode cX10_openPart 40 = .ok (.istore 6, 2) := by decide +kernel
theorem dX10_openPart_42 : decode cX10_openPart 42 = .ok (.iload 6, 2) := by decide +kernel
theorem dX10_openPart_44 : decode cX10_openPart 44 = .ok (.aload_n 0, 1) := by decide +kernel
theorem dX10_openPart_45 : decode cX10_openPart 45 = .ok (.getfield 36, 3) := by decide +kernel
theorem dX10_openPart_48 : decode cX10_openPart 48 = .ok (.iload 4, 2) := by decide +kernel
theorem dX10_openPart_50 : decode cX10_openPart 50 = .ok (.iaload, 1) := by decide +kernel
theorem dX10_openPart_51 : decode cX10_openPart 51 = .ok (.if_icmp .ge 55, 3) := by decide +kernel
theorem dX10_openPart_54 : decode cX10_openPart 54 = .ok (.aload_n 0, 1) := by decide +kernel
theorem dX10_openPart_55 : decode cX10_openPart 55 = .ok (.getfield 42, 3) := by decide +kernel
theorem dX10_openPart_58 : decode cX10_openPart 58 = .ok (.iload 4, 2) := by decide +kernel
theorem dX10_openPart_60 : decode cX10_openPart 60 = .ok (.bipush 12, 2) := by decide +kernel
theorem dX10_openPart_62 : decode cX10_openPart 62 = .ok (.imul, 1) := by decide +kernel
theorem dX10_openPart_63 : decode cX10_openPart 63 = .ok (.iload 6, 2) := by decide +kernel
theorem dX10_openPart_65 : decode cX10_openPart 65 = .ok (.iadd, 1) := by decide +kernel
theorem dX10_openPart_66 : decode cX10_openPart 66 = .ok (.iaload, 1) := by decide +kernel
theorem dX10_openPart_67 : decode cX10_openPart 67 = .ok (.bipush 100, 2) := by decide +kernel
theorem dX10_openPart_69 : decode cX10_openPart 69 = .ok (.imul, 1) := by decide +kernel
theorem dX10_openPart_70 : decode cX10_openPart 70 = .ok (.aload_n 0, 1) := by decide +kernel
theorem dX10_openPart_71 : decode cX10_openPart 71 = .ok (.getfield 42, 3) := by decide +kernel
theorem dX10_openPart_74 : decode cX10_openPart 74 = .ok (.iload 5, 2) := by decide +kernel
theorem dX10_openPart_76 : decode cX10_openPart 76 = .ok (.bipush 12, 2) := by decide +kernel
theorem dX10_openPart_78 : decode cX10_openPart 78 = .ok (.imul, 1) := by decide +kernel
theorem dX10_openPart_79 : decode cX10_openPart 79 = .ok (.iload 6, 2) := by decide +kernel
theorem dX10_openPart_81 : decode cX10_openPart 81 = .ok (.iadd, 1) := by decide +kernel
theorem dX10_openPart_82 : decode cX10_openPart 82 = .ok (.iaload, 1) := by decide +kernel
theorem dX10_openPart_83 : decode cX10_openPart 83 = .ok (.iadd, 1) := by decide +kernel
theorem dX10_openPart_84 : decode cX10_openPart 84 = .ok (.istore 7, 2) := by decide +kernel
theorem dX10_openPart_86 : decode cX10_openPart 86 = .ok (.aload_n 0, 1) := by decide +kernel
theorem dX10_openPart_87 : decode cX10_openPart 87 = .ok (.getfield 72, 3) := by decide +kernel
theorem dX10_openPart_90 : decode cX10_openPart 90 = .ok (.iload 7, 2) := by decide +kernel
theorem dX10_openPart_92 : decode cX10_openPart 92 = .ok (.baload, 1) := by decide +kernel
theorem dX10_openPart_93 : decode cX10_openPart 93 = .ok (.iconst 1, 1) := by decide +kernel
theorem dX10_openPart_94 : decode cX10_openPart 94 = .ok (.if_icmp .eq 6, 3) := by decide +kernel
theorem dX10_openPart_97 : decode cX10_openPart 97 = .ok (.iload 7, 2) := by decide +kernel
theorem dX10_openPart_99 : decode cX10_openPart 99 = .ok (.ireturn, 1) := by decide +kernel
theorem dX10_openPart_100 : decode cX10_openPart 100 = .ok (.iinc 6 1, 3) := by decide +kernel
theorem dX10_openPart_103 : decode cX10_openPart 103 = .ok (.goto (-61), 3) := by decide +kernel
theorem dX10_openPart_106 : decode cX10_openPart 106 = .ok (.iinc 3 1, 3) := by decide +kernel
theorem dX10_openPart_109 : decode cX10_openPart 109 = .ok (.goto (-107), 3) := by decide +kernel
theorem dX10_openPart_112 : decode cX10_openPart 112 = .ok (.iconst (-1), 1) := by decide +kernel
theorem dX10_openPart_113 : decode cX10_openPart 113 = .ok (.ireturn, 1) := by decide +kernel
theorem dX10_alike_0 : decode cX10_alike 0 = .ok (.aload_n 0, 1) := by decide +kernel
theorem dX10_alike_1 : decode cX10_alike 1 = .ok (.aload_n 0, 1) := by decide +kernel
theorem dX10_alike_2 : decode cX10_alike 2 = .ok (.iload_n 1, 1) := by decide +kernel
theorem dX10_alike_3 : decode cX10_alike 3 = .ok (.invokevirtual 124, 3) := by decide +kernel
theorem dX10_alike_6 : decode cX10_alike 6 = .ok (.ifCond .lt 11, 3) := by decide +kernel
theorem dX10_alike_9 : decode cX10_alike 9 = .ok (.aload_n 0, 1) := by decide +kernel
theorem dX10_alike_10 : decode cX10_alike 10 = .ok (.iload_n 2, 1) := by decide +kernel
theorem dX10_alike_11 : decode cX10_alike 11 = .ok (.invokevirtual 124, 3) := by decide +kernel
theorem dX10_alike_14 : decode cX10_alike 14 = .ok (.ifCond .ge 7, 3) := by decide +kernel
theorem dX10_alike_17 : decode cX10_alike 17 = .ok (.iconst 1, 1) := by decide +kernel
theorem dX10_alike_18 : decode cX10_alike 18 = .ok (.goto 4, 3) := by decide +kernel
theorem dX10_alike_21 : decode cX10_alike 21 = .ok (.iconst 0, 1) := by decide +kernel
theorem dX10_alike_22 : decode cX10_alike 22 = .ok (.invokevirtual 88, 3) := by decide +kernel
theorem dX10_alike_25 : decode cX10_alike 25 = .ok (.ifCond .eq 5, 3) := by decide +kernel
theorem dX10_alike_28 : decode cX10_alike 28 = .ok (.iconst 0, 1) := by decide +kernel
theorem dX10_alike_29 : decode cX10_alike 29 = .ok (.ireturn, 1) := by decide +kernel
theorem dX10_alike_30 : decode cX10_alike 30 = .ok (.iconst 0, 1) := by decide +kernel
theorem dX10_alike_31 : decode cX10_alike 31 = .ok (.istore_n 3, 1) := by decide +kernel
theorem dX10_alike_32 : decode cX10_alike 32 = .ok (.iload_n 3, 1) := by decide +kernel
theorem dX10_alike_33 : decode cX10_alike 33 = .ok (.aload_n 0, 1) := by decide +kernel
theorem dX10_alike_34 : decode cX10_alike 34 = .ok (.getfield 72, 3) := by decide +kernel
theorem dX10_alike_37 : decode cX10_alike 37 = .ok (.arraylength, 1) := by decide +kernel
theorem dX10_alike_38 : decode cX10_alike 38 = .ok (.if_icmp .ge 16, 3) := by decide +kernel
theorem dX10_alike_41 : decode cX10_alike 41 = .ok (.aload_n 0, 1) := by decide +kernel
theorem dX10_alike_42 : decode cX10_alike 42 = .ok (.getfield 72, 3) := by decide +kernel
theorem dX10_alike_45 : decode cX10_alike 45 = .ok (.iload_n 3, 1) := by decide +kernel
theorem dX10_alike_46 : decode cX10_alike 46 = .ok (.iconst 0, 1) := by decide +kernel
theorem dX10_alike_47 : decode cX10_alike 47 = .ok (.bastore, 1) := by decide +kernel
theorem dX10_alike_48 : decode cX10_alike 48 = .ok (.iinc 3 1, 3) := by decide +kernel
theorem dX10_alike_51 : decode cX10_alike 51 = .ok (.goto (-19), 3) := by decide +kernel
theorem dX10_alike_54 : decode cX10_alike 54 = .ok (.aload_n 0, 1) := by decide +kernel
theorem dX10_alike_55 : decode cX10_alike 55 = .ok (.iload_n 1, 1) := by decide +kernel
theorem dX10_alike_56 : decode cX10_alike 56 = .ok (.invokevirtual 124, 3) := by decide +kernel
theorem dX10_alike_59 : decode cX10_alike 59 = .ok (.bipush 100, 2) := by decide +kernel
theorem dX10_alike_61 : decode cX10_alike 61 = .ok (.imul, 1) := by decide +kernel
theorem dX10_alike_62 : decode cX10_alike 62 = .ok (.aload_n 0, 1) := by decide +kernel
theorem dX10_alike_63 : decode cX10_alike 63 = .ok (.iload_n 2, 1) := by decide +kernel
theorem dX10_alike_64 : decode cX10_alike 64 = .ok (.invokevirtual 124, 3) := by decide +kernel
theorem dX10_alike_67 : decode cX10_alike 67 = .ok (.iadd, 1) := by decide +kernel
theorem dX10_alike_68 : decode cX10_alike 68 = .ok (.istore_n 3, 1) := by decide +kernel
theorem dX10_alike_69 : decode cX10_alike 69 = .ok (.aload_n 0, 1) := by decide +kernel
theorem dX10_alike_70 : decode cX10_alike 70 = .ok (.getfield 76, 3) := by decide +kernel
theorem dX10_alike_73 : decode cX10_alike 73 = .ok (.iconst 0, 1) := by decide +kernel
theorem dX10_alike_74 : decode cX10_alike 74 = .ok (.iload_n 3, 1) := by decide +kernel
theorem dX10_alike_75 : decode cX10_alike 75 = .ok (.iastore, 1) := by decide +kernel
theorem dX10_alike_76 : decode cX10_alike 76 = .ok (.iconst 1, 1) := by decide +kernel
theorem dX10_alike_77 : decode cX10_alike 77 = .ok (.istore 4, 2) := by decide +kernel
theorem dX10_alike_79 : decode cX10_alike 79 = .ok (.iload 4, 2) := by decide +kernel
theorem dX10_alike_81 : decode cX10_alike 81 = .ok (.ifCond .le 139, 3) := by decide +kernel
theorem dX10_alike_84 : decode cX10_alike 84 = .ok (.aload_n 0, 1) := by decide +kernel
theorem dX10_alike_85 : decode cX10_alike 85 = .ok (.getfield 76, 3) := by decide +kernel
theorem dX10_alike_88 : decode cX10_alike 88 = .ok (.iload 4, 2) := by decide +kernel
theorem dX10_alike_90 : decode cX10_alike 90 = .ok (.iconst 1, 1) := by decide +kernel
theorem dX10_alike_91 : decode cX10_alike 91 = .ok (.isub, 1) := by decide +kernel
theorem dX10_alike_92 : decode cX10_alike 92 = .ok (.iaload, 1) := by decide +kernel
theorem dX10_alike_93 : decode cX10_alike 93 = .ok (.istore 5, 2) := by decide +kernel
theorem dX10_alike_95 : decode cX10_alike 95 = .ok (.iload 5, 2) := by decide +kernel
theorem dX10_alike_97 : decode cX10_alike 97 = .ok (.bipush 100, 2) := by decide +kernel
theorem dX10_alike_99 : decode cX10_alike 99 = .ok (.idiv, 1) := by decide +kernel
theorem dX10_alike_100 : decode cX10_alike 100 = .ok (.istore 6, 2) := by decide +kernel
theorem dX10_alike_102 : decode cX10_alike 102 = .ok (.iload 5, 2) := by decide +kernel
theorem dX10_alike_104 : decode cX10_alike 104 = .ok (.bipush 100, 2) := by decide +kernel
theorem dX10_alike_106 : decode cX10_alike 106 = .ok (.irem, 1) := by decide +kernel
theorem dX10_alike_107 : decode cX10_alike 107 = .ok (.istore 7, 2) := by decide +kernel
theorem dX10_alike_109 : decode cX10_alike 109 = .ok (.iconst (-1), 1) := by decide +kernel
theorem dX10_alike_110 : decode cX10_alike 110 = .ok (.istore 8, 2) := by decide +kernel
theorem dX10_alike_112 : decode cX10_alike 112 = .ok (.aload_n 0, 1) := by decide +kernel
theorem dX10_alike_113 : decode cX10_alike 113 = .ok (.iload 6, 2) := by decide +kernel
theorem dX10_alike_115 : decode cX10_alike 115 = .ok (.iload 7, 2) := by decide +kernel
theorem dX10_alike_117 : decode cX10_alike 117 = .ok (.invokevirtual 174, 3) := by decide +kernel
theorem dX10_alike_120 : decode cX10_alike 120 = .ok (.ifCond .ne 14, 3) := by decide +kernel
theorem dX10_alike_123 : decode cX10_alike 123 = .ok (.aload_n 0, 1) := by decide +kernel
theorem dX10_alike_124 : decode cX10_alike 124 = .ok (.getfield 72, 3) := by decide +kernel
theorem dX10_alike_127 : decode cX10_alike 127 = .ok (.iload 5, 2) := by decide +kernel
theorem dX10_alike_129 : decode cX10_alike 129 = .ok (.iconst 2, 1) := by decide +kernel
theorem dX10_alike_130 : decode cX10_alike 130 = .ok (.bastore, 1) := by decide +kernel
theorem dX10_alike_131 : decode cX10_alike 131 = .ok (.goto 13, 3) := by decide +kernel
theorem dX10_alike_134 : decode cX10_alike 134 = .ok (.aload_n 0, 1) := by decide +kernel
theorem dX10_alike_135 : decode cX10_alike 135 = .ok (.iload 6, 2) := by decide +kernel
theorem dX10_alike_137 : decode cX10_alike 137 = .ok (.iload 7, 2) := by decide +kernel
theorem dX10_alike_139 : decode cX10_alike 139 = .ok (.invokevirtual 178, 3) := by decide +kernel
theorem dX10_alike_142 : decode cX10_alike 142 = .ok (.istore 8, 2) := by decide +kernel
theorem dX10_alike_144 : decode cX10_alike 144 = .ok (.aload_n 0, 1) := by decide +kernel
theorem dX10_alike_145 : decode cX10_alike 145 = .ok (.getfield 72, 3) := by decide +kernel
theorem dX10_alike_148 : decode cX10_alike 148 = .ok (.iload 5, 2) := by decide +kernel
theorem dX10_alike_150 : decode cX10_alike 150 = .ok (.baload, 1) := by decide +kernel
theorem dX10_alike_151 : decode cX10_alike 151 = .ok (.iconst 2, 1) := by decide +kernel
theorem dX10_alike_152 : decode cX10_alike 152 = .ok (.if_icmp .ne 9, 3) := by decide +kernel
theorem dX10_alike_155 : decode cX10_alike 155 = .ok (.iinc 4 (-1), 3) := by decide +kernel
theorem dX10_alike_158 : decode cX10_alike 158 = .ok (.goto 59, 3) := by decide +kernel
theorem dX10_alike_161 : decode cX10_alike 161 = .ok (.iload 8, 2) := by decide +kernel
theorem dX10_alike_163 : decode cX10_alike 163 = .ok (.ifCond .ge 17, 3) := by decide +kernel
theorem dX10_alike_166 : decode cX10_alike 166 = .ok (.aload_n 0, 1) := by decide +kernel
theorem dX10_alike_167 : decode cX10_alike 167 = .ok (.getfield 72, 3) := by decide +kernel
theorem dX10_alike_170 : decode cX10_alike 170 = .ok (.iload 5, 2) := by decide +kernel
theorem dX10_alike_172 : decode cX10_alike 172 = .ok (.iconst 1, 1) := by decide +kernel
theorem dX10_alike_173 : decode cX10_alike 173 = .ok (.bastore, 1) := by decide +kernel
theorem dX10_alike_174 : decode cX10_alike 174 = .ok (.iinc 4 (-1), 3) := by decide +kernel
theorem dX10_alike_177 : decode cX10_alike 177 = .ok (.goto 40, 3) := by decide +kernel
theorem dX10_alike_180 : decode cX10_alike 180 = .ok (.aload_n 0, 1) := by decide +kernel
theorem dX10_alike_181 : decode cX10_alike 181 = .ok (.getfield 72, 3) := by decide +kernel
theorem dX10_alike_184 : decode cX10_alike 184 = .ok (.iload 8, 2) := by decide +kernel
theorem dX10_alike_186 : decode cX10_alike 186 = .ok (.baload, 1) := by decide +kernel
theorem dX10_alike_187 : decode cX10_alike 187 = .ok (.iconst 2, 1) := by decide +kernel
theorem dX10_alike_188 : decode cX10_alike 188 = .ok (.if_icmp .ne 17, 3) := by decide +kernel
theorem dX10_alike_191 : decode cX10_alike 191 = .ok (.aload_n 0, 1) := by decide +kernel
theorem dX10_alike_192 : decode cX10_alike 192 = .ok (.getfield 72, 3) := by decide +kernel
theorem dX10_alike_195 : decode cX10_alike 195 = .ok (.iload 5, 2) := by decide +kernel
theorem dX10_alike_197 : decode cX10_alike 197 = .ok (.iconst 2, 1) := by decide +kernel
theorem dX10_alike_198 : decode cX10_alike 198 = .ok (.bastore, 1) := by decide +kernel
theorem dX10_alike_199 : decode cX10_alike 199 = .ok (.iinc 4 (-1), 3) := by decide +kernel
theorem dX10_alike_202 : decode cX10_alike 202 = .ok (.goto 15, 3) := by decide +kernel
theorem dX10_alike_205 : decode cX10_alike 205 = .ok (.aload_n 0, 1) := by decide +kernel
theorem dX10_alike_206 : decode cX10_alike 206 = .ok (.getfield 76, 3) := by decide +kernel
theorem dX10_alike_209 : decode cX10_alike 209 = .ok (.iload 4, 2) := by decide +kernel
theorem dX10_alike_211 : decode cX10_alike 211 = .ok (.iload 8, 2) := by decide +kernel
theorem dX10_alike_213 : decode cX10_alike 213 = .ok (.iastore, 1) := by decide +kernel
theorem dX10_alike_214 : decode cX10_alike 214 = .ok (.iinc 4 1, 3) := by decide +kernel
theorem dX10_alike_217 : decode cX10_alike 217 = .ok (.goto (-138), 3) := by decide +kernel
theorem dX10_alike_220 : decode cX10_alike 220 = .ok (.aload_n 0, 1) := by decide +kernel
theorem dX10_alike_221 : decode cX10_alike 221 = .ok (.getfield 72, 3) := by decide +kernel
theorem dX10_alike_224 : decode cX10_alike 224 = .ok (.iload_n 3, 1) := by decide +kernel
theorem dX10_alike_225 : decode cX10_alike 225 = .ok (.baload, 1) := by decide +kernel
theorem dX10_alike_226 : decode cX10_alike 226 = .ok (.iconst 1, 1) := by decide +kernel
theorem dX10_alike_227 : decode cX10_alike 227 = .ok (.if_icmp .ne 7, 3) := by decide +kernel
theorem dX10_alike_230 : decode cX10_alike 230 = .ok (.iconst 1, 1) := by decide +kernel
theorem dX10_alike_231 : decode cX10_alike 231 = .ok (.goto 4, 3) := by decide +kernel
theorem dX10_alike_234 : decode cX10_alike 234 = .ok (.iconst 0, 1) := by decide +kernel
theorem dX10_alike_235 : decode cX10_alike 235 = .ok (.ireturn, 1) := by decide +kernel
theorem dX10_at_0 : decode cX10_at 0 = .ok (.aload_n 0, 1) := by decide +kernel
theorem dX10_at_1 : decode cX10_at 1 = .ok (.iload_n 2, 1) := by decide +kernel
theorem dX10_at_2 : decode cX10_at 2 = .ok (.invokevirtual 124, 3) := by decide +kernel
theorem dX10_at_5 : decode cX10_at 5 = .ok (.istore 4, 2) := by decide +kernel
theorem dX10_at_7 : decode cX10_at 7 = .ok (.aload_n 0, 1) := by decide +kernel
theorem dX10_at_8 : decode cX10_at 8 = .ok (.aload_n 0, 1) := by decide +kernel
theorem dX10_at_9 : decode cX10_at 9 = .ok (.iload_n 1, 1) := by decide +kernel
theorem dX10_at_10 : decode cX10_at 10 = .ok (.invokevirtual 121, 3) := by decide +kernel
theorem dX10_at_13 : decode cX10_at 13 = .ok (.ifCond .ne 7, 3) := by decide +kernel
theorem dX10_at_16 : decode cX10_at 16 = .ok (.iconst 1, 1) := by decide +kernel
theorem dX10_at_17 : decode cX10_at 17 = .ok (.goto 57, 3) := by decide +kernel
theorem dX10_at_20 : decode cX10_at 20 = .ok (.iload 4, 2) := by decide +kernel
theorem dX10_at_22 : decode cX10_at 22 = .ok (.ifCond .ge 7, 3) := by decide +kernel
theorem dX10_at_25 : decode cX10_at 25 = .ok (.iconst 2, 1) := by decide +kernel
theorem dX10_at_26 : decode cX10_at 26 = .ok (.goto 48, 3) := by decide +kernel
theorem dX10_at_29 : decode cX10_at 29 = .ok (.aload_n 0, 1) := by decide +kernel
theorem dX10_at_30 : decode cX10_at 30 = .ok (.getfield 33, 3) := by decide +kernel
theorem dX10_at_33 : decode cX10_at 33 = .ok (.iload 4, 2) := by decide +kernel
theorem dX10_at_35 : decode cX10_at 35 = .ok (.iaload, 1) := by decide +kernel
theorem dX10_at_36 : decode cX10_at 36 = .ok (.aload_n 0, 1) := by decide +kernel
theorem dX10_at_37 : decode cX10_at 37 = .ok (.getfield 13, 3) := by decide +kernel
theorem dX10_at_40 : decode cX10_at 40 = .ok (.iload_n 1, 1) := by decide +kernel
theorem dX10_at_41 : decode cX10_at 41 = .ok (.iaload, 1) := by decide +kernel
theorem dX10_at_42 : decode cX10_at 42 = .ok (.if_icmp .eq 7, 3) := by decide +kernel
theorem dX10_at_45 : decode cX10_at 45 = .ok (.iconst 3, 1) := by decide +kernel
theorem dX10_at_46 : decode cX10_at 46 = .ok (.goto 28, 3) := by decide +kernel
theorem dX10_at_49 : decode cX10_at 49 = .ok (.iload_n 3, 1) := by decide +kernel
theorem dX10_at_50 : decode cX10_at 50 = .ok (.ifCond .lt 19, 3) := by decide +kernel
theorem dX10_at_53 : decode cX10_at 53 = .ok (.iload_n 3, 1) := by decide +kernel
theorem dX10_at_54 : decode cX10_at 54 = .ok (.aload_n 0, 1) := by decide +kernel
theorem dX10_at_55 : decode cX10_at 55 = .ok (.getfield 36, 3) := by decide +kernel
theorem dX10_at_58 : decode cX10_at 58 = .ok (.iload_n 1, 1) := by decide +kernel
theorem dX10_at_59 : decode cX10_at 59 = .ok (.bipush 100, 2) := by decide +kernel
theorem dX10_at_61 : decode cX10_at 61 = .ok (.imul, 1) := by decide +kernel
theorem dX10_at_62 : decode cX10_at 62 = .ok (.iload 4, 2) := by decide +kernel
theorem dX10_at_64 : decode cX10_at 64 = .ok (.iadd, 1) := by decide +kernel
theorem dX10_at_65 : decode cX10_at 65 = .ok (.iaload, 1) := by decide +kernel
theorem dX10_at_66 : decode cX10_at 66 = .ok (.if_icmp .lt 7, 3) := by decide +kernel
theorem dX10_at_69 : decode cX10_at 69 = .ok (.iconst 4, 1) := by decide +kernel
theorem dX10_at_70 : decode cX10_at 70 = .ok (.goto 4, 3) := by decide +kernel
theorem dX10_at_73 : decode cX10_at 73 = .ok (.iconst 0, 1) := by decide +kernel
theorem dX10_at_74 : decode cX10_at 74 = .ok (.invokevirtual 88, 3) := by decide +kernel
theorem dX10_at_77 : decode cX10_at 77 = .ok (.ifCond .eq 5, 3) := by decide +kernel
theorem dX10_at_80 : decode cX10_at 80 = .ok (.iconst 0, 1) := by decide +kernel
theorem dX10_at_81 : decode cX10_at 81 = .ok (.ireturn, 1) := by decide +kernel
theorem dX10_at_82 : decode cX10_at 82 = .ok (.aload_n 0, 1) := by decide +kernel
theorem dX10_at_83 : decode cX10_at 83 = .ok (.getfield 30, 3) := by decide +kernel
theorem dX10_at_86 : decode cX10_at 86 = .ok (.aload_n 0, 1) := by decide +kernel
theorem dX10_at_87 : decode cX10_at 87 = .ok (.getfield 42, 3) := by decide +kernel
theorem dX10_at_90 : decode cX10_at 90 = .ok (.iload_n 1, 1) := by decide +kernel
theorem dX10_at_91 : decode cX10_at 91 = .ok (.bipush 100, 2) := by decide +kernel
theorem dX10_at_93 : decode cX10_at 93 = .ok (.imul, 1) := by decide +kernel
theorem dX10_at_94 : decode cX10_at 94 = .ok (.iload 4, 2) := by decide +kernel
theorem dX10_at_96 : decode cX10_at 96 = .ok (.iadd, 1) := by decide +kernel
theorem dX10_at_97 : decode cX10_at 97 = .ok (.bipush 12, 2) := by decide +kernel
theorem dX10_at_99 : decode cX10_at 99 = .ok (.imul, 1) := by decide +kernel
theorem dX10_at_100 : decode cX10_at 100 = .ok (.iload_n 3, 1) := by decide +kernel
theorem dX10_at_101 : decode cX10_at 101 = .ok (.iadd, 1) := by decide +kernel
theorem dX10_at_102 : decode cX10_at 102 = .ok (.iaload, 1) := by decide +kernel
theorem dX10_at_103 : decode cX10_at 103 = .ok (.iaload, 1) := by decide +kernel
theorem dX10_at_104 : decode cX10_at 104 = .ok (.ireturn, 1) := by decide +kernel
theorem dX10_back_0 : decode cX10_back 0 = .ok (.aload_n 0, 1) := by decide +kernel
theorem dX10_back_1 : decode cX10_back 1 = .ok (.iload_n 2, 1) := by decide +kernel
theorem dX10_back_2 : decode cX10_back 2 = .ok (.invokevirtual 124, 3) := by decide +kernel
theorem dX10_back_5 : decode cX10_back 5 = .ok (.istore 4, 2) := by decide +kernel
theorem dX10_back_7 : decode cX10_back 7 = .ok (.aload_n 0, 1) := by decide +kernel
theorem dX10_back_8 : decode cX10_back 8 = .ok (.aload_n 0, 1) := by decide +kernel
theorem dX10_back_9 : decode cX10_back 9 = .ok (.iload_n 1, 1) := by decide +kernel
theorem dX10_back_10 : decode cX10_back 10 = .ok (.invokevirtual 121, 3) := by decide +kernel
theorem dX10_back_13 : decode cX10_back 13 = .ok (.ifCond .ne 7, 3) := by decide +kernel
theorem dX10_back_16 : decode cX10_back 16 = .ok (.iconst 1, 1) := by decide +kernel
theorem dX10_back_17 : decode cX10_back 17 = .ok (.goto 57, 3) := by decide +kernel
theorem dX10_back_20 : decode cX10_back 20 = .ok (.iload 4, 2) := by decide +kernel
theorem dX10_back_22 : decode cX10_back 22 = .ok (.ifCond .ge 7, 3) := by decide +kernel
theorem dX10_back_25 : decode cX10_back 25 = .ok (.iconst 2, 1) := by decide +kernel
theorem dX10_back_26 : decode cX10_back 26 = .ok (.goto 48, 3) := by decide +kernel
theorem dX10_back_29 : decode cX10_back 29 = .ok (.aload_n 0, 1) := by decide +kernel
theorem dX10_back_30 : decode cX10_back 30 = .ok (.getfield 33, 3) := by decide +kernel
theorem dX10_back_33 : decode cX10_back 33 = .ok (.iload 4, 2) := by decide +kernel
theorem dX10_back_35 : decode cX10_back 35 = .ok (.iaload, 1) := by decide +kernel
theorem dX10_back_36 : decode cX10_back 36 = .ok (.aload_n 0, 1) := by decide +kernel
theorem dX10_back_37 : decode cX10_back 37 = .ok (.getfield 17, 3) := by decide +kernel
theorem dX10_back_40 : decode cX10_back 40 = .ok (.iload_n 1, 1) := by decide +kernel
theorem dX10_back_41 : decode cX10_back 41 = .ok (.iaload, 1) := by decide +kernel
theorem dX10_back_42 : decode cX10_back 42 = .ok (.if_icmp .eq 7, 3) := by decide +kernel
theorem dX10_back_45 : decode cX10_back 45 = .ok (.iconst 3, 1) := by decide +kernel
theorem dX10_back_46 : decode cX10_back 46 = .ok (.goto 28, 3) := by decide +kernel
theorem dX10_back_49 : decode cX10_back 49 = .ok (.iload_n 3, 1) := by decide +kernel
theorem dX10_back_50 : decode cX10_back 50 = .ok (.ifCond .lt 19, 3) := by decide +kernel
theorem dX10_back_53 : decode cX10_back 53 = .ok (.iload_n 3, 1) := by decide +kernel
theorem dX10_back_54 : decode cX10_back 54 = .ok (.aload_n 0, 1) := by decide +kernel
theorem dX10_back_55 : decode cX10_back 55 = .ok (.getfield 39, 3) := by decide +kernel
theorem dX10_back_58 : decode cX10_back 58 = .ok (.iload_n 1, 1) := by decide +kernel
theorem dX10_back_59 : decode cX10_back 59 = .ok (.bipush 100, 2) := by decide +kernel
theorem dX10_back_61 : decode cX10_back 61 = .ok (.imul, 1) := by decide +kernel
theorem dX10_back_62 : decode cX10_back 62 = .ok (.iload 4, 2) := by decide +kernel
theorem dX10_back_64 : decode cX10_back 64 = .ok (.iadd, 1) := by decide +kernel
theorem dX10_back_65 : decode cX10_back 65 = .ok (.iaload, 1) := by decide +kernel
theorem dX10_back_66 : decode cX10_back 66 = .ok (.if_icmp .lt 7, 3) := by decide +kernel
theorem dX10_back_69 : decode cX10_back 69 = .ok (.iconst 4, 1) := by decide +kernel
theorem dX10_back_70 : decode cX10_back 70 = .ok (.goto 4, 3) := by decide +kernel
theorem dX10_back_73 : decode cX10_back 73 = .ok (.iconst 0, 1) := by decide +kernel
theorem dX10_back_74 : decode cX10_back 74 = .ok (.invokevirtual 88, 3) := by decide +kernel
theorem dX10_back_77 : decode cX10_back 77 = .ok (.ifCond .eq 5, 3) := by decide +kernel
theorem dX10_back_80 : decode cX10_back 80 = .ok (.iconst 0, 1) := by decide +kernel
theorem dX10_back_81 : decode cX10_back 81 = .ok (.ireturn, 1) := by decide +kernel
theorem dX10_back_82 : decode cX10_back 82 = .ok (.aload_n 0, 1) := by decide +kernel
theorem dX10_back_83 : decode cX10_back 83 = .ok (.getfield 30, 3) := by decide +kernel
theorem dX10_back_86 : decode cX10_back 86 = .ok (.aload_n 0, 1) := by decide +kernel
theorem dX10_back_87 : decode cX10_back 87 = .ok (.getfield 45, 3) := by decide +kernel
theorem dX10_back_90 : decode cX10_back 90 = .ok (.iload_n 1, 1) := by decide +kernel
theorem dX10_back_91 : decode cX10_back 91 = .ok (.bipush 100, 2) := by decide +kernel
theorem dX10_back_93 : decode cX10_back 93 = .ok (.imul, 1) := by decide +kernel
theorem dX10_back_94 : decode cX10_back 94 = .ok (.iload 4, 2) := by decide +kernel
theorem dX10_back_96 : decode cX10_back 96 = .ok (.iadd, 1) := by decide +kernel
theorem dX10_back_97 : decode cX10_back 97 = .ok (.bipush 12, 2) := by decide +kernel
theorem dX10_back_99 : decode cX10_back 99 = .ok (.imul, 1) := by decide +kernel
theorem dX10_back_100 : decode cX10_back 100 = .ok (.iload_n 3, 1) := by decide +kernel
theorem dX10_back_101 : decode cX10_back 101 = .ok (.iadd, 1) := by decide +kernel
theorem dX10_back_102 : decode cX10_back 102 = .ok (.iaload, 1) := by decide +kernel
theorem dX10_back_103 : decode cX10_back 103 = .ok (.iaload, 1) := by decide +kernel
theorem dX10_back_104 : decode cX10_back 104 = .ok (.ireturn, 1) := by decide +kernel
theorem dX10_owners_0 : decode cX10_owners 0 = .ok (.iconst 0, 1) := by decide +kernel
theorem dX10_owners_1 : decode cX10_owners 1 = .ok (.istore_n 2, 1) := by decide +kernel
theorem dX10_owners_2 : decode cX10_owners 2 = .ok (.iconst 0, 1) := by decide +kernel
theorem dX10_owners_3 : decode cX10_owners 3 = .ok (.istore_n 3, 1) := by decide +kernel
theorem dX10_owners_4 : decode cX10_owners 4 = .ok (.iload_n 3, 1) := by decide +kernel
theorem dX10_owners_5 : decode cX10_owners 5 = .ok (.bipush 100, 2) := by decide +kernel
theorem dX10_owners_7 : decode cX10_owners 7 = .ok (.if_icmp .ge 30, 3) := by decide +kernel
theorem dX10_owners_10 : decode cX10_owners 10 = .ok (.aload_n 0, 1) := by decide +kernel
theorem dX10_owners_11 : decode cX10_owners 11 = .ok (.getfield 26, 3) := by decide +kernel
theorem dX10_owners_14 : decode cX10_owners 14 = .ok (.iload_n 3, 1) := by decide +kernel
theorem dX10_owners_15 : decode cX10_owners 15 = .ok (.baload, 1) := by decide +kernel
theorem dX10_owners_16 : decode cX10_owners 16 = .ok (.ifCond .eq 15, 3) := by decide +kernel
theorem dX10_owners_19 : decode cX10_owners 19 = .ok (.aload_n 0, 1) := by decide +kernel
theorem dX10_owners_20 : decode cX10_owners 20 = .ok (.iload_n 3, 1) := by decide +kernel
theorem dX10_owners_21 : decode cX10_owners 21 = .ok (.iload_n 1, 1) := by decide +kernel
theorem dX10_owners_22 : decode cX10_owners 22 = .ok (.invokevirtual 182, 3) := by decide +kernel
theorem dX10_owners_25 : decode cX10_owners 25 = .ok (.ifCond .eq 6, 3) := by decide +kernel
theorem dX10_owners_28 : decode cX10_owners 28 = .ok (.iinc 2 1, 3) := by decide +kernel
theorem dX10_owners_31 : decode cX10_owners 31 = .ok (.iinc 3 1, 3) := by decide +kernel
theorem dX10_owners_34 : decode cX10_owners 34 = .ok (.goto (-30), 3) := by decide +kernel
theorem dX10_owners_37 : decode cX10_owners 37 = .ok (.iload_n 2, 1) := by decide +kernel
theorem dX10_owners_38 : decode cX10_owners 38 = .ok (.ireturn, 1) := by decide +kernel
theorem dX10_owned_0 : decode cX10_owned 0 = .ok (.iconst 0, 1) := by decide +kernel
theorem dX10_owned_1 : decode cX10_owned 1 = .ok (.istore_n 2, 1) := by decide +kernel
theorem dX10_owned_2 : decode cX10_owned 2 = .ok (.iconst 0, 1) := by decide +kernel
theorem dX10_owned_3 : decode cX10_owned 3 = .ok (.istore_n 3, 1) := by decide +kernel
theorem dX10_owned_4 : decode cX10_owned 4 = .ok (.iload_n 3, 1) := by decide +kernel
theorem dX10_owned_5 : decode cX10_owned 5 = .ok (.bipush 100, 2) := by decide +kernel
theorem dX10_owned_7 : decode cX10_owned 7 = .ok (.if_icmp .ge 30, 3) := by decide +kernel
theorem dX10_owned_10 : decode cX10_owned 10 = .ok (.aload_n 0, 1) := by decide +kernel
theorem dX10_owned_11 : decode cX10_owned 11 = .ok (.getfield 26, 3) := by decide +kernel
theorem dX10_owned_14 : decode cX10_owned 14 = .ok (.iload_n 3, 1) := by decide +kernel
theorem dX10_owned_15 : decode cX10_owned 15 = .ok (.baload, 1) := by decide +kernel
theorem dX10_owned_16 : decode cX10_owned 16 = .ok (.ifCond .eq 15, 3) := by decide +kernel
theorem dX10_owned_19 : decode cX10_owned 19 = .ok (.aload_n 0, 1) := by decide +kernel
theorem dX10_owned_20 : decode cX10_owned 20 = .ok (.iload_n 1, 1) := by decide +kernel
theorem dX10_owned_21 : decode cX10_owned 21 = .ok (.iload_n 3, 1) := by decide +kernel
theorem dX10_owned_22 : decode cX10_owned 22 = .ok (.invokevirtual 182, 3) := by decide +kernel
theorem dX10_owned_25 : decode cX10_owned 25 = .ok (.ifCond .eq 6, 3) := by decide +kernel
theorem dX10_owned_28 : decode cX10_owned 28 = .ok (.iinc 2 1, 3) := by decide +kernel
theorem dX10_owned_31 : decode cX10_owned 31 = .ok (.iinc 3 1, 3) := by decide +kernel
theorem dX10_owned_34 : decode cX10_owned 34 = .ok (.goto (-30), 3) := by decide +kernel
theorem dX10_owned_37 : decode cX10_owned 37 = .ok (.iload_n 2, 1) := by decide +kernel
theorem dX10_owned_38 : decode cX10_owned 38 = .ok (.ireturn, 1) := by decide +kernel
theorem dX10_depth_0 : decode cX10_depth 0 = .ok (.iconst 0, 1) := by decide +kernel
theorem dX10_depth_1 : decode cX10_depth 1 = .ok (.istore_n 2, 1) := by decide +kernel
theorem dX10_depth_2 : decode cX10_depth 2 = .ok (.iload_n 2, 1) := by decide +kernel
theorem dX10_depth_3 : decode cX10_depth 3 = .ok (.bipush 100, 2) := by decide +kernel
theorem dX10_depth_5 : decode cX10_depth 5 = .ok (.if_icmp .ge 16, 3) := by decide +kernel
theorem dX10_depth_8 : decode cX10_depth 8 = .ok (.aload_n 0, 1) := by decide +kernel
theorem dX10_depth_9 : decode cX10_depth 9 = .ok (.getfield 51, 3) := by decide +kernel
theorem dX10_depth_12 : decode cX10_depth 12 = .ok (.iload_n 2, 1) := by decide +kernel
theorem dX10_depth_13 : decode cX10_depth 13 = .ok (.iconst 0, 1) := by decide +kernel
theorem dX10_depth_14 : decode cX10_depth 14 = .ok (.iastore, 1) := by decide +kernel
theorem dX10_depth_15 : decode cX10_depth 15 = .ok (.iinc 2 1, 3) := by decide +kernel
theorem dX10_depth_18 : decode cX10_depth 18 = .ok (.goto (-16), 3) := by decide +kernel
theorem dX10_depth_21 : decode cX10_depth 21 = .ok (.iconst 1, 1) := by decide +kernel
theorem dX10_depth_22 : decode cX10_depth 22 = .ok (.istore_n 2, 1) := by decide +kernel
theorem dX10_depth_23 : decode cX10_depth 23 = .ok (.iload_n 2, 1) := by decide +kernel
theorem dX10_depth_24 : decode cX10_depth 24 = .ok (.ifCond .eq 146, 3) := by decide +kernel
theorem dX10_depth_27 : decode cX10_depth 27 = .ok (.iconst 0, 1) := by decide +kernel
theorem dX10_depth_28 : decode cX10_depth 28 = .ok (.istore_n 2, 1) := by decide +kernel
theorem dX10_depth_29 : decode cX10_depth 29 = .ok (.iconst 0, 1) := by decide +kernel
theorem dX10_depth_30 : decode cX10_depth 30 = .ok (.istore_n 3, 1) := by decide +kernel
theorem dX10_depth_31 : decode cX10_depth 31 = .ok (.iload_n 3, 1) := by decide +kernel
theorem dX10_depth_32 : decode cX10_depth 32 = .ok (.aload_n 0, 1) := by decide +kernel
theorem dX10_depth_33 : decode cX10_depth 33 = .ok (.getfield 85, 3) := by decide +kernel
theorem dX10_depth_36 : decode cX10_depth 36 = .ok (.if_icmp .ge 131, 3) := by decide +kernel
theorem dX10_depth_39 : decode cX10_depth 39 = .ok (.aload_n 0, 1) := by decide +kernel
theorem dX10_depth_40 : decode cX10_depth 40 = .ok (.getfield 23, 3) := by decide +kernel
theorem dX10_depth_43 : decode cX10_depth 43 = .ok (.iload_n 3, 1) := by decide +kernel
theorem dX10_depth_44 : decode cX10_depth 44 = .ok (.iaload, 1) := by decide +kernel
theorem dX10_depth_45 : decode cX10_depth 45 = .ok (.iconst 1, 1) := by decide +kernel
theorem dX10_depth_46 : decode cX10_depth 46 = .ok (.if_icmp .eq 6, 3) := by decide +kernel
theorem dX10_depth_49 : decode cX10_depth 49 = .ok (.goto 112, 3) := by decide +kernel
theorem dX10_depth_52 : decode cX10_depth 52 = .ok (.iconst 0, 1) := by decide +kernel
theorem dX10_depth_53 : decode cX10_depth 53 = .ok (.istore 4, 2) := by decide +kernel
theorem dX10_depth_55 : decode cX10_depth 55 = .ok (.iload 4, 2) := by decide +kernel
theorem dX10_depth_57 : decode cX10_depth 57 = .ok (.bipush 100, 2) := by decide +kernel
theorem dX10_depth_59 : decode cX10_depth 59 = .ok (.if_icmp .ge 102, 3) := by decide +kernel
theorem dX10_depth_62 : decode cX10_depth 62 = .ok (.iload_n 3, 1) := by decide +kernel
theorem dX10_depth_63 : decode cX10_depth 63 = .ok (.bipush 100, 2) := by decide +kernel
theorem dX10_depth_65 : decode cX10_depth 65 = .ok (.imul, 1) := by decide +kernel
theorem dX10_depth_66 : decode cX10_depth 66 = .ok (.iload 4, 2) := by decide +kernel
theorem dX10_depth_68 : decode cX10_depth 68 = .ok (.iadd, 1) := by decide +kernel
theorem dX10_depth_69 : decode cX10_depth 69 = .ok (.istore 5, 2) := by decide +kernel
theorem dX10_depth_71 : decode cX10_depth 71 = .ok (.iconst 0, 1) := by decide +kernel
theorem dX10_depth_72 : decode cX10_depth 72 = .ok (.istore 6, 2) := by decide +kernel
theorem dX10_depth_74 : decode cX10_depth 74 = .ok (.aload_n 0, 1) := by decide +kernel
theorem dX10_depth_75 : decode cX10_depth 75 = .ok (.getfield 26, 3) := by decide +kernel
theorem dX10_depth_78 : decode cX10_depth 78 = .ok (.iload 4, 2) := by decide +kernel
theorem dX10_depth_80 : decode cX10_depth 80 = .ok (.baload, 1) := by decide +kernel
theorem dX10_depth_81 : decode cX10_depth 81 = .ok (.ifCond .eq 74, 3) := by decide +kernel
theorem dX10_depth_84 : decode cX10_depth 84 = .ok (.iload 6, 2) := by decide +kernel
theorem dX10_depth_86 : decode cX10_depth 86 = .ok (.aload_n 0, 1) := by decide +kernel
theorem dX10_depth_87 : decode cX10_depth 87 = .ok (.getfield 36, 3) := by decide +kernel
theorem dX10_depth_90 : decode cX10_depth 90 = .ok (.iload 5, 2) := by decide +kernel
theorem dX10_depth_92 : decode cX10_depth 92 = .ok (.iaload, 1) := by decide +kernel
theorem dX10_depth_93 : decode cX10_depth 93 = .ok (.if_icmp .ge 62, 3) := by decide +kernel
theorem dX10_depth_96 : decode cX10_depth 96 = .ok (.aload_n 0, 1) := by decide +kernel
theorem dX10_depth_97 : decode cX10_depth 97 = .ok (.getfield 42, 3) := by decide +kernel
theorem dX10_depth_100 : decode cX10_depth 100 = .ok (.iload 5, 2) := by decide +kernel
theorem dX10_depth_102 : decode cX10_depth 102 = .ok (.bipush 12, 2) := by decide +kernel
theorem dX10_depth_104 : decode cX10_depth 104 = .ok (.imul, 1) := by decide +kernel
theorem dX10_depth_105 : decode cX10_depth 105 = .ok (.iload 6, 2) := by decide +kernel
theorem dX10_depth_107 : decode cX10_depth 107 = .ok (.iadd, 1) := by decide +kernel
theorem dX10_depth_108 : decode cX10_depth 108 = .ok (.iaload, 1) := by decide +kernel
theorem dX10_depth_109 : decode cX10_depth 109 = .ok (.istore 7, 2) := by decide +kernel
theorem dX10_depth_111 : decode cX10_depth 111 = .ok (.aload_n 0, 1) := by decide +kernel
theorem dX10_depth_112 : decode cX10_depth 112 = .ok (.getfield 51, 3) := by decide +kernel
theorem dX10_depth_115 : decode cX10_depth 115 = .ok (.iload 7, 2) := by decide +kernel
theorem dX10_depth_117 : decode cX10_depth 117 = .ok (.iaload, 1) := by decide +kernel
theorem dX10_depth_118 : decode cX10_depth 118 = .ok (.aload_n 0, 1) := by decide +kernel
theorem dX10_depth_119 : decode cX10_depth 119 = .ok (.getfield 51, 3) := by decide +kernel
theorem dX10_depth_122 : decode cX10_depth 122 = .ok (.iload 4, 2) := by decide +kernel
theorem dX10_depth_124 : decode cX10_depth 124 = .ok (.iaload, 1) := by decide +kernel
theorem dX10_depth_125 : decode cX10_depth 125 = .ok (.if_icmp .le 6, 3) := by decide +kernel
theorem dX10_depth_128 : decode cX10_depth 128 = .ok (.goto 21, 3) := by decide +kernel
theorem dX10_depth_131 : decode cX10_depth 131 = .ok (.aload_n 0, 1) := by decide +kernel
theorem dX10_depth_132 : decode cX10_depth 132 = .ok (.getfield 51, 3) := by decide +kernel
theorem dX10_depth_135 : decode cX10_depth 135 = .ok (.iload 7, 2) := by decide +kernel
theorem dX10_depth_137 : decode cX10_depth 137 = .ok (.aload_n 0, 1) := by decide +kernel
theorem dX10_depth_138 : decode cX10_depth 138 = .ok (.getfield 51, 3) := by decide +kernel
theorem dX10_depth_141 : decode cX10_depth 141 = .ok (.iload 4, 2) := by decide +kernel
theorem dX10_depth_143 : decode cX10_depth 143 = .ok (.iaload, 1) := by decide +kernel
theorem dX10_depth_144 : decode cX10_depth 144 = .ok (.iconst 1, 1) := by decide +kernel
theorem dX10_depth_145 : decode cX10_depth 145 = .ok (.iadd, 1) := by decide +kernel
theorem dX10_depth_146 : decode cX10_depth 146 = .ok (.iastore, 1) := by decide +kernel
theorem dX10_depth_147 : decode cX10_depth 147 = .ok (.iconst 1, 1) := by decide +kernel
theorem dX10_depth_148 : decode cX10_depth 148 = .ok (.istore_n 2, 1) := by decide +kernel
theorem dX10_depth_149 : decode cX10_depth 149 = .ok (.iinc 6 1, 3) := by decide +kernel
theorem dX10_depth_152 : decode cX10_depth 152 = .ok (.goto (-78), 3) := by decide +kernel
theorem dX10_depth_155 : decode cX10_depth 155 = .ok (.iinc 4 1, 3) := by decide +kernel
theorem dX10_depth_158 : decode cX10_depth 158 = .ok (.goto (-103), 3) := by decide +kernel
theorem dX10_depth_161 : decode cX10_depth 161 = .ok (.iinc 3 1, 3) := by decide +kernel
theorem dX10_depth_164 : decode cX10_depth 164 = .ok (.goto (-133), 3) := by decide +kernel
theorem dX10_depth_167 : decode cX10_depth 167 = .ok (.goto (-144), 3) := by decide +kernel
theorem dX10_depth_170 : decode cX10_depth 170 = .ok (.aload_n 0, 1) := by decide +kernel
theorem dX10_depth_171 : decode cX10_depth 171 = .ok (.getfield 51, 3) := by decide +kernel
theorem dX10_depth_174 : decode cX10_depth 174 = .ok (.iload_n 1, 1) := by decide +kernel
theorem dX10_depth_175 : decode cX10_depth 175 = .ok (.iaload, 1) := by decide +kernel
theorem dX10_depth_176 : decode cX10_depth 176 = .ok (.ireturn, 1) := by decide +kernel
theorem dX10_near_0 : decode cX10_near 0 = .ok (.iconst 0, 1) := by decide +kernel
theorem dX10_near_1 : decode cX10_near 1 = .ok (.istore_n 2, 1) := by decide +kernel
theorem dX10_near_2 : decode cX10_near 2 = .ok (.iconst 0, 1) := by decide +kernel
theorem dX10_near_3 : decode cX10_near 3 = .ok (.istore_n 3, 1) := by decide +kernel
theorem dX10_near_4 : decode cX10_near 4 = .ok (.iload_n 3, 1) := by decide +kernel
theorem dX10_near_5 : decode cX10_near 5 = .ok (.bipush 100, 2) := by decide +kernel
theorem dX10_near_7 : decode cX10_near 7 = .ok (.if_icmp .ge 72, 3) := by decide +kernel
theorem dX10_near_10 : decode cX10_near 10 = .ok (.iconst 0, 1) := by decide +kernel
theorem dX10_near_11 : decode cX10_near 11 = .ok (.istore 4, 2) := by decide +kernel
theorem dX10_near_13 : decode cX10_near 13 = .ok (.iconst 0, 1) := by decide +kernel
theorem dX10_near_14 : decode cX10_near 14 = .ok (.istore 5, 2) := by decide +kernel
theorem dX10_near_16 : decode cX10_near 16 = .ok (.iload 5, 2) := by decide +kernel
theorem dX10_near_18 : decode cX10_near 18 = .ok (.aload_n 0, 1) := by decide +kernel
theorem dX10_near_19 : decode cX10_near 19 = .ok (.getfield 85, 3) := by decide +kernel
theorem dX10_near_22 : decode cX10_near 22 = .ok (.if_icmp .ge 43, 3) := by decide +kernel
theorem dX10_near_25 : decode cX10_near 25 = .ok (.aload_n 0, 1) := by decide +kernel
theorem dX10_near_26 : decode cX10_near 26 = .ok (.getfield 26, 3) := by decide +kernel
theorem dX10_near_29 : decode cX10_near 29 = .ok (.iload_n 3, 1) := by decide +kernel
theorem dX10_near_30 : decode cX10_near 30 = .ok (.baload, 1) := by decide +kernel
theorem dX10_near_31 : decode cX10_near 31 = .ok (.ifCond .eq 34, 3) := by decide +kernel
theorem dX10_near_34 : decode cX10_near 34 = .ok (.aload_n 0, 1) := by decide +kernel
theorem dX10_near_35 : decode cX10_near 35 = .ok (.iload 5, 2) := by decide +kernel
theorem dX10_near_37 : decode cX10_near 37 = .ok (.iload_n 1, 1) := by decide +kernel
theorem dX10_near_38 : decode cX10_near 38 = .ok (.iload_n 3, 1) := by decide +kernel
theorem dX10_near_39 : decode cX10_near 39 = .ok (.invokevirtual 110, 3) := by decide +kernel
theorem dX10_near_42 : decode cX10_near 42 = .ok (.ifCond .ne 14, 3) := by decide +kernel
theorem dX10_near_45 : decode cX10_near 45 = .ok (.aload_n 0, 1) := by decide +kernel
theorem dX10_near_46 : decode cX10_near 46 = .ok (.iload 5, 2) := by decide +kernel
theorem dX10_near_48 : decode cX10_near 48 = .ok (.iload_n 3, 1) := by decide +kernel
theorem dX10_near_49 : decode cX10_near 49 = .ok (.iload_n 1, 1) := by decide +kernel
theorem dX10_near_50 : decode cX10_near 50 = .ok (.invokevirtual 110, 3) := by decide +kernel
theorem dX10_near_53 : decode cX10_near 53 = .ok (.ifCond .eq 6, 3) := by decide +kernel
theorem dX10_near_56 : decode cX10_near 56 = .ok (.iconst 1, 1) := by decide +kernel
theorem dX10_near_57 : decode cX10_near 57 = .ok (.istore 4, 2) := by decide +kernel
theorem dX10_near_59 : decode cX10_near 59 = .ok (.iinc 5 1, 3) := by decide +kernel
theorem dX10_near_62 : decode cX10_near 62 = .ok (.goto (-46), 3) := by decide +kernel
theorem dX10_near_65 : decode cX10_near 65 = .ok (.iload 4, 2) := by decide +kernel
theorem dX10_near_67 : decode cX10_near 67 = .ok (.ifCond .eq 6, 3) := by decide +kernel
theorem dX10_near_70 : decode cX10_near 70 = .ok (.iinc 2 1, 3) := by decide +kernel
theorem dX10_near_73 : decode cX10_near 73 = .ok (.iinc 3 1, 3) := by decide +kernel
theorem dX10_near_76 : decode cX10_near 76 = .ok (.goto (-72), 3) := by decide +kernel
theorem dX10_near_79 : decode cX10_near 79 = .ok (.iload_n 2, 1) := by decide +kernel
theorem dX10_near_80 : decode cX10_near 80 = .ok (.ireturn, 1) := by decide +kernel
theorem dX10_ask_0 : decode cX10_ask 0 = .ok (.aload_n 0, 1) := by decide +kernel
theorem dX10_ask_1 : decode cX10_ask 1 = .ok (.iload_n 1, 1) := by decide +kernel
theorem dX10_ask_2 : decode cX10_ask 2 = .ok (.invokevirtual 124, 3) := by decide +kernel
theorem dX10_ask_5 : decode cX10_ask 5 = .ok (.istore_n 3, 1) := by decide +kernel
theorem dX10_ask_6 : decode cX10_ask 6 = .ok (.aload_n 0, 1) := by decide +kernel
theorem dX10_ask_7 : decode cX10_ask 7 = .ok (.iload_n 2, 1) := by decide +kernel
theorem dX10_ask_8 : decode cX10_ask 8 = .ok (.ifCond .lt 8, 3) := by decide +kernel
theorem dX10_ask_11 : decode cX10_ask 11 = .ok (.iload_n 2, 1) := by decide +kernel
theorem dX10_ask_12 : decode cX10_ask 12 = .ok (.iconst 5, 1) := by decide +kernel
theorem dX10_ask_13 : decode cX10_ask 13 = .ok (.if_icmp .le 7, 3) := by decide +kernel
theorem dX10_ask_16 : decode cX10_ask 16 = .ok (.iconst 1, 1) := by decide +kernel
theorem dX10_ask_17 : decode cX10_ask 17 = .ok (.goto 12, 3) := by decide +kernel
theorem dX10_ask_20 : decode cX10_ask 20 = .ok (.iload_n 3, 1) := by decide +kernel
theorem dX10_ask_21 : decode cX10_ask 21 = .ok (.ifCond .ge 7, 3) := by decide +kernel
theorem dX10_ask_24 : decode cX10_ask 24 = .ok (.iconst 2, 1) := by decide +kernel
theorem dX10_ask_25 : decode cX10_ask 25 = .ok (.goto 4, 3) := by decide +kernel
theorem dX10_ask_28 : decode cX10_ask 28 = .ok (.iconst 0, 1) := by decide +kernel
theorem dX10_ask_29 : decode cX10_ask 29 = .ok (.invokevirtual 88, 3) := by decide +kernel
theorem dX10_ask_32 : decode cX10_ask 32 = .ok (.ifCond .eq 5, 3) := by decide +kernel
theorem dX10_ask_35 : decode cX10_ask 35 = .ok (.iconst 0, 1) := by decide +kernel
theorem dX10_ask_36 : decode cX10_ask 36 = .ok (.ireturn, 1) := by decide +kernel
theorem dX10_ask_37 : decode cX10_ask 37 = .ok (.iload_n 2, 1) := by decide +kernel
theorem dX10_ask_38 : decode cX10_ask 38 = .ok (.tableswitch 65 0 4 #[34, 41, 47, 53, 59], 34) := by decide +kernel
theorem dX10_ask_72 : decode cX10_ask 72 = .ok (.aload_n 0, 1) := by decide +kernel
theorem dX10_ask_73 : decode cX10_ask 73 = .ok (.getfield 33, 3) := by decide +kernel
theorem dX10_ask_76 : decode cX10_ask 76 = .ok (.iload_n 3, 1) := by decide +kernel
theorem dX10_ask_77 : decode cX10_ask 77 = .ok (.iaload, 1) := by decide +kernel
theorem dX10_ask_78 : decode cX10_ask 78 = .ok (.ireturn, 1) := by decide +kernel
theorem dX10_ask_79 : decode cX10_ask 79 = .ok (.aload_n 0, 1) := by decide +kernel
theorem dX10_ask_80 : decode cX10_ask 80 = .ok (.iload_n 3, 1) := by decide +kernel
theorem dX10_ask_81 : decode cX10_ask 81 = .ok (.invokevirtual 185, 3) := by decide +kernel
theorem dX10_ask_84 : decode cX10_ask 84 = .ok (.ireturn, 1) := by decide +kernel
theorem dX10_ask_85 : decode cX10_ask 85 = .ok (.aload_n 0, 1) := by decide +kernel
theorem dX10_ask_86 : decode cX10_ask 86 = .ok (.iload_n 3, 1) := by decide +kernel
theorem dX10_ask_87 : decode cX10_ask 87 = .ok (.invokevirtual 158, 3) := by decide +kernel
theorem dX10_ask_90 : decode cX10_ask 90 = .ok (.ireturn, 1) := by decide +kernel
theorem dX10_ask_91 : decode cX10_ask 91 = .ok (.aload_n 0, 1) := by decide +kernel
theorem dX10_ask_92 : decode cX10_ask 92 = .ok (.iload_n 3, 1) := by decide +kernel
theorem dX10_ask_93 : decode cX10_ask 93 = .ok (.invokevirtual 188, 3) := by decide +kernel
theorem dX10_ask_96 : decode cX10_ask 96 = .ok (.ireturn, 1) := by decide +kernel
theorem dX10_ask_97 : decode cX10_ask 97 = .ok (.aload_n 0, 1) := by decide +kernel
theorem dX10_ask_98 : decode cX10_ask 98 = .ok (.iload_n 3, 1) := by decide +kernel
theorem dX10_ask_99 : decode cX10_ask 99 = .ok (.invokevirtual 191, 3) := by decide +kernel
theorem dX10_ask_102 : decode cX10_ask 102 = .ok (.ireturn, 1) := by decide +kernel
theorem dX10_ask_103 : decode cX10_ask 103 = .ok (.aload_n 0, 1) := by decide +kernel
theorem dX10_ask_104 : decode cX10_ask 104 = .ok (.iload_n 3, 1) := by decide +kernel
theorem dX10_ask_105 : decode cX10_ask 105 = .ok (.invokevirtual 194, 3) := by decide +kernel
theorem dX10_ask_108 : decode cX10_ask 108 = .ok (.ireturn, 1) := by decide +kernel
theorem dX10_size_0 : decode cX10_size 0 = .ok (.aload_n 0, 1) := by decide +kernel
theorem dX10_size_1 : decode cX10_size 1 = .ok (.iload_n 2, 1) := by decide +kernel
theorem dX10_size_2 : decode cX10_size 2 = .ok (.invokevirtual 124, 3) := by decide +kernel
theorem dX10_size_5 : decode cX10_size 5 = .ok (.istore 4, 2) := by decide +kernel
theorem dX10_size_7 : decode cX10_size 7 = .ok (.aload_n 0, 1) := by decide +kernel
theorem dX10_size_8 : decode cX10_size 8 = .ok (.aload_n 0, 1) := by decide +kernel
theorem dX10_size_9 : decode cX10_size 9 = .ok (.iload_n 1, 1) := by decide +kernel
theorem dX10_size_10 : decode cX10_size 10 = .ok (.invokevirtual 121, 3) := by decide +kernel
theorem dX10_size_13 : decode cX10_size 13 = .ok (.ifCond .eq 12, 3) := by decide +kernel
theorem dX10_size_16 : decode cX10_size 16 = .ok (.iload_n 3, 1) := by decide +kernel
theorem dX10_size_17 : decode cX10_size 17 = .ok (.ifCond .lt 8, 3) := by decide +kernel
theorem dX10_size_20 : decode cX10_size 20 = .ok (.iload_n 3, 1) := by decide +kernel
theorem dX10_size_21 : decode cX10_size 21 = .ok (.iconst 1, 1) := by decide +kernel
theorem dX10_size_22 : decode cX10_size 22 = .ok (.if_icmp .le 7, 3) := by decide +kernel
theorem dX10_size_25 : decode cX10_size 25 = .ok (.iconst 1, 1) := by decide +kernel
theorem dX10_size_26 : decode cX10_size 26 = .ok (.goto 46, 3) := by decide +kernel
theorem dX10_size_29 : decode cX10_size 29 = .ok (.iload 4, 2) := by decide +kernel
theorem dX10_size_31 : decode cX10_size 31 = .ok (.ifCond .ge 7, 3) := by decide +kernel
theorem dX10_size_34 : decode cX10_size 34 = .ok (.iconst 2, 1) := by decide +kernel
theorem dX10_size_35 : decode cX10_size 35 = .ok (.goto 37, 3) := by decide +kernel
theorem dX10_size_38 : decode cX10_size 38 = .ok (.aload_n 0, 1) := by decide +kernel
theorem dX10_size_39 : decode cX10_size 39 = .ok (.getfield 33, 3) := by decide +kernel
theorem dX10_size_42 : decode cX10_size 42 = .ok (.iload 4, 2) := by decide +kernel
theorem dX10_size_44 : decode cX10_size 44 = .ok (.iaload, 1) := by decide +kernel
theorem dX10_size_45 : decode cX10_size 45 = .ok (.iload_n 3, 1) := by decide +kernel
theorem dX10_size_46 : decode cX10_size 46 = .ok (.ifCond .ne 12, 3) := by decide +kernel
theorem dX10_size_49 : decode cX10_size 49 = .ok (.aload_n 0, 1) := by decide +kernel
theorem dX10_size_50 : decode cX10_size 50 = .ok (.getfield 13, 3) := by decide +kernel
theorem dX10_size_53 : decode cX10_size 53 = .ok (.iload_n 1, 1) := by decide +kernel
theorem dX10_size_54 : decode cX10_size 54 = .ok (.iaload, 1) := by decide +kernel
theorem dX10_size_55 : decode cX10_size 55 = .ok (.goto 9, 3) := by decide +kernel
theorem dX10_size_58 : decode cX10_size 58 = .ok (.aload_n 0, 1) := by decide +kernel
theorem dX10_size_59 : decode cX10_size 59 = .ok (.getfield 17, 3) := by decide +kernel
theorem dX10_size_62 : decode cX10_size 62 = .ok (.iload_n 1, 1) := by decide +kernel
theorem dX10_size_63 : decode cX10_size 63 = .ok (.iaload, 1) := by decide +kernel
theorem dX10_size_64 : decode cX10_size 64 = .ok (.if_icmp .eq 7, 3) := by decide +kernel
theorem dX10_size_67 : decode cX10_size 67 = .ok (.iconst 3, 1) := by decide +kernel
theorem dX10_size_68 : decode cX10_size 68 = .ok (.goto 4, 3) := by decide +kernel
theorem dX10_size_71 : decode cX10_size 71 = .ok (.iconst 0, 1) := by decide +kernel
theorem dX10_size_72 : decode cX10_size 72 = .ok (.invokevirtual 88, 3) := by decide +kernel
theorem dX10_size_75 : decode cX10_size 75 = .ok (.ifCond .eq 5, 3) := by decide +kernel
theorem dX10_size_78 : decode cX10_size 78 = .ok (.iconst 0, 1) := by decide +kernel
theorem dX10_size_79 : decode cX10_size 79 = .ok (.ireturn, 1) := by decide +kernel
theorem dX10_size_80 : decode cX10_size 80 = .ok (.iload_n 3, 1) := by decide +kernel
theorem dX10_size_81 : decode cX10_size 81 = .ok (.ifCond .ne 18, 3) := by decide +kernel
theorem dX10_size_84 : decode cX10_size 84 = .ok (.aload_n 0, 1) := by decide +kernel
theorem dX10_size_85 : decode cX10_size 85 = .ok (.getfield 36, 3) := by decide +kernel
theorem dX10_size_88 : decode cX10_size 88 = .ok (.iload_n 1, 1) := by decide +kernel
theorem dX10_size_89 : decode cX10_size 89 = .ok (.bipush 100, 2) := by decide +kernel
theorem dX10_size_91 : decode cX10_size 91 = .ok (.imul, 1) := by decide +kernel
theorem dX10_size_92 : decode cX10_size 92 = .ok (.iload 4, 2) := by decide +kernel
theorem dX10_size_94 : decode cX10_size 94 = .ok (.iadd, 1) := by decide +kernel
theorem dX10_size_95 : decode cX10_size 95 = .ok (.iaload, 1) := by decide +kernel
theorem dX10_size_96 : decode cX10_size 96 = .ok (.goto 15, 3) := by decide +kernel
theorem dX10_size_99 : decode cX10_size 99 = .ok (.aload_n 0, 1) := by decide +kernel
theorem dX10_size_100 : decode cX10_size 100 = .ok (.getfield 39, 3) := by decide +kernel
theorem dX10_size_103 : decode cX10_size 103 = .ok (.iload_n 1, 1) := by decide +kernel
theorem dX10_size_104 : decode cX10_size 104 = .ok (.bipush 100, 2) := by decide +kernel
theorem dX10_size_106 : decode cX10_size 106 = .ok (.imul, 1) := by decide +kernel
theorem dX10_size_107 : decode cX10_size 107 = .ok (.iload 4, 2) := by decide +kernel
theorem dX10_size_109 : decode cX10_size 109 = .ok (.iadd, 1) := by decide +kernel
theorem dX10_size_110 : decode cX10_size 110 = .ok (.iaload, 1) := by decide +kernel
theorem dX10_size_111 : decode cX10_size 111 = .ok (.ireturn, 1) := by decide +kernel
theorem dX10_way_0 : decode cX10_way 0 = .ok (.aload_n 0, 1) := by decide +kernel
theorem dX10_way_1 : decode cX10_way 1 = .ok (.aload_n 0, 1) := by decide +kernel
theorem dX10_way_2 : decode cX10_way 2 = .ok (.iload_n 1, 1) := by decide +kernel
theorem dX10_way_3 : decode cX10_way 3 = .ok (.invokevirtual 124, 3) := by decide +kernel
theorem dX10_way_6 : decode cX10_way 6 = .ok (.ifCond .lt 11, 3) := by decide +kernel
theorem dX10_way_9 : decode cX10_way 9 = .ok (.aload_n 0, 1) := by decide +kernel
theorem dX10_way_10 : decode cX10_way 10 = .ok (.iload_n 2, 1) := by decide +kernel
theorem dX10_way_11 : decode cX10_way 11 = .ok (.invokevirtual 124, 3) := by decide +kernel
theorem dX10_way_14 : decode cX10_way 14 = .ok (.ifCond .ge 7, 3) := by decide +kernel
theorem dX10_way_17 : decode cX10_way 17 = .ok (.iconst 1, 1) := by decide +kernel
theorem dX10_way_18 : decode cX10_way 18 = .ok (.goto 4, 3) := by decide +kernel
theorem dX10_way_21 : decode cX10_way 21 = .ok (.iconst 0, 1) := by decide +kernel
theorem dX10_way_22 : decode cX10_way 22 = .ok (.invokevirtual 88, 3) := by decide +kernel
theorem dX10_way_25 : decode cX10_way 25 = .ok (.ifCond .eq 5, 3) := by decide +kernel
theorem dX10_way_28 : decode cX10_way 28 = .ok (.iconst 0, 1) := by decide +kernel
theorem dX10_way_29 : decode cX10_way 29 = .ok (.ireturn, 1) := by decide +kernel
theorem dX10_way_30 : decode cX10_way 30 = .ok (.aload_n 0, 1) := by decide +kernel
theorem dX10_way_31 : decode cX10_way 31 = .ok (.iload_n 1, 1) := by decide +kernel
theorem dX10_way_32 : decode cX10_way 32 = .ok (.invokevirtual 124, 3) := by decide +kernel
theorem dX10_way_35 : decode cX10_way 35 = .ok (.istore_n 3, 1) := by decide +kernel
theorem dX10_way_36 : decode cX10_way 36 = .ok (.aload_n 0, 1) := by decide +kernel
theorem dX10_way_37 : decode cX10_way 37 = .ok (.aload_n 0, 1) := by decide +kernel
theorem dX10_way_38 : decode cX10_way 38 = .ok (.iload_n 2, 1) := by decide +kernel
theorem dX10_way_39 : decode cX10_way 39 = .ok (.invokevirtual 124, 3) := by decide +kernel
theorem dX10_way_42 : decode cX10_way 42 = .ok (.iconst 0, 1) := by decide +kernel
theorem dX10_way_43 : decode cX10_way 43 = .ok (.invokevirtual 135, 3) := by decide +kernel
theorem dX10_way_46 : decode cX10_way 46 = .ok (.aload_n 0, 1) := by decide +kernel
theorem dX10_way_47 : decode cX10_way 47 = .ok (.iconst 0, 1) := by decide +kernel
theorem dX10_way_48 : decode cX10_way 48 = .ok (.putfield 114, 3) := by decide +kernel
theorem dX10_way_51 : decode cX10_way 51 = .ok (.aload_n 0, 1) := by decide +kernel
theorem dX10_way_52 : decode cX10_way 52 = .ok (.getfield 51, 3) := by decide +kernel
theorem dX10_way_55 : decode cX10_way 55 = .ok (.iload_n 3, 1) := by decide +kernel
theorem dX10_way_56 : decode cX10_way 56 = .ok (.iaload, 1) := by decide +kernel
theorem dX10_way_57 : decode cX10_way 57 = .ok (.ifCond .ge 5, 3) := by decide +kernel
theorem dX10_way_60 : decode cX10_way 60 = .ok (.iconst (-1), 1) := by decide +kernel
theorem dX10_way_61 : decode cX10_way 61 = .ok (.ireturn, 1) := by decide +kernel
theorem dX10_way_62 : decode cX10_way 62 = .ok (.aload_n 0, 1) := by decide +kernel
theorem dX10_way_63 : decode cX10_way 63 = .ok (.iload_n 3, 1) := by decide +kernel
theorem dX10_way_64 : decode cX10_way 64 = .ok (.invokevirtual 139, 3) := by decide +kernel
theorem dX10_way_67 : decode cX10_way 67 = .ok (.aload_n 0, 1) := by decide +kernel
theorem dX10_way_68 : decode cX10_way 68 = .ok (.getfield 51, 3) := by decide +kernel
theorem dX10_way_71 : decode cX10_way 71 = .ok (.iload_n 3, 1) := by decide +kernel
theorem dX10_way_72 : decode cX10_way 72 = .ok (.iaload, 1) := by decide +kernel
theorem dX10_way_73 : decode cX10_way 73 = .ok (.ireturn, 1) := by decide +kernel
theorem dX10_path_0 : decode cX10_path 0 = .ok (.aload_n 0, 1) := by decide +kernel
theorem dX10_path_1 : decode cX10_path 1 = .ok (.iload_n 1, 1) := by decide +kernel
theorem dX10_path_2 : decode cX10_path 2 = .ok (.ifCond .lt 11, 3) := by decide +kernel
theorem dX10_path_5 : decode cX10_path 5 = .ok (.iload_n 1, 1) := by decide +kernel
theorem dX10_path_6 : decode cX10_path 6 = .ok (.aload_n 0, 1) := by decide +kernel
theorem dX10_path_7 : decode cX10_path 7 = .ok (.getfield 114, 3) := by decide +kernel
theorem dX10_path_10 : decode cX10_path 10 = .ok (.if_icmp .lt 7, 3) := by decide +kernel
theorem dX10_path_13 : decode cX10_path 13 = .ok (.iconst 1, 1) := by decide +kernel
theorem dX10_path_14 : decode cX10_path 14 = .ok (.goto 4, 3) := by decide +kernel
theorem dX10_path_17 : decode cX10_path 17 = .ok (.iconst 0, 1) := by decide +kernel
theorem dX10_path_18 : decode cX10_path 18 = .ok (.invokevirtual 88, 3) := by decide +kernel
theorem dX10_path_21 : decode cX10_path 21 = .ok (.ifCond .eq 5, 3) := by decide +kernel
theorem dX10_path_24 : decode cX10_path 24 = .ok (.iconst 0, 1) := by decide +kernel
theorem dX10_path_25 : decode cX10_path 25 = .ok (.ireturn, 1) := by decide +kernel
theorem dX10_path_26 : decode cX10_path 26 = .ok (.aload_n 0, 1) := by decide +kernel
theorem dX10_path_27 : decode cX10_path 27 = .ok (.getfield 48, 3) := by decide +kernel
theorem dX10_path_30 : decode cX10_path 30 = .ok (.iload_n 1, 1) := by decide +kernel
theorem dX10_path_31 : decode cX10_path 31 = .ok (.iaload, 1) := by decide +kernel
theorem dX10_path_32 : decode cX10_path 32 = .ok (.ireturn, 1) := by decide +kernel
theorem dX10_longer_0 : decode cX10_longer 0 = .ok (.iconst 2, 1) := by decide +kernel
theorem dX10_longer_1 : decode cX10_longer 1 = .ok (.aload_n 0, 1) := by decide +kernel
theorem dX10_longer_2 : decode cX10_longer 2 = .ok (.arraylength, 1) := by decide +kernel
theorem dX10_longer_3 : decode cX10_longer 3 = .ok (.imul, 1) := by decide +kernel
theorem dX10_longer_4 : decode cX10_longer 4 = .ok (.newarray .int, 2) := by decide +kernel
theorem dX10_longer_6 : decode cX10_longer 6 = .ok (.astore_n 1, 1) := by decide +kernel
theorem dX10_longer_7 : decode cX10_longer 7 = .ok (.iconst 0, 1) := by decide +kernel
theorem dX10_longer_8 : decode cX10_longer 8 = .ok (.istore_n 2, 1) := by decide +kernel
theorem dX10_longer_9 : decode cX10_longer 9 = .ok (.iload_n 2, 1) := by decide +kernel
theorem dX10_longer_10 : decode cX10_longer 10 = .ok (.aload_n 0, 1) := by decide +kernel
theorem dX10_longer_11 : decode cX10_longer 11 = .ok (.arraylength, 1) := by decide +kernel
theorem dX10_longer_12 : decode cX10_longer 12 = .ok (.if_icmp .ge 15, 3) := by decide +kernel
theorem dX10_longer_15 : decode cX10_longer 15 = .ok (.aload_n 1, 1) := by decide +kernel
theorem dX10_longer_16 : decode cX10_longer 16 = .ok (.iload_n 2, 1) := by decide +kernel
theorem dX10_longer_17 : decode cX10_longer 17 = .ok (.aload_n 0, 1) := by decide +kernel
theorem dX10_longer_18 : decode cX10_longer 18 = .ok (.iload_n 2, 1) := by decide +kernel
theorem dX10_longer_19 : decode cX10_longer 19 = .ok (.iaload, 1) := by decide +kernel
theorem dX10_longer_20 : decode cX10_longer 20 = .ok (.iastore, 1) := by decide +kernel
theorem dX10_longer_21 : decode cX10_longer 21 = .ok (.iinc 2 1, 3) := by decide +kernel
theorem dX10_longer_24 : decode cX10_longer 24 = .ok (.goto (-15), 3) := by decide +kernel
theorem dX10_longer_27 : decode cX10_longer 27 = .ok (.aload_n 1, 1) := by decide +kernel
theorem dX10_longer_28 : decode cX10_longer 28 = .ok (.areturn, 1) := by decide +kernel
theorem dX10_keep_0 : decode cX10_keep 0 = .ok (.aload_n 0, 1) := by decide +kernel
theorem dX10_keep_1 : decode cX10_keep 1 = .ok (.getfield 197, 3) := by decide +kernel
theorem dX10_keep_4 : decode cX10_keep 4 = .ok (.aload_n 0, 1) := by decide +kernel
theorem dX10_keep_5 : decode cX10_keep 5 = .ok (.getfield 79, 3) := by decide +kernel
theorem dX10_keep_8 : decode cX10_keep 8 = .ok (.arraylength, 1) := by decide +kernel
theorem dX10_keep_9 : decode cX10_keep 9 = .ok (.if_icmp .ne 14, 3) := by decide +kernel
theorem dX10_keep_12 : decode cX10_keep 12 = .ok (.aload_n 0, 1) := by decide +kernel
theorem dX10_keep_13 : decode cX10_keep 13 = .ok (.aload_n 0, 1) := by decide +kernel
theorem dX10_keep_14 : decode cX10_keep 14 = .ok (.getfield 79, 3) := by decide +kernel
theorem dX10_keep_17 : decode cX10_keep 17 = .ok (.invokestatic 200, 3) := by decide +kernel
theorem dX10_keep_20 : decode cX10_keep 20 = .ok (.putfield 79, 3) := by decide +kernel
theorem dX10_keep_23 : decode cX10_keep 23 = .ok (.aload_n 0, 1) := by decide +kernel
theorem dX10_keep_24 : decode cX10_keep 24 = .ok (.getfield 79, 3) := by decide +kernel
theorem dX10_keep_27 : decode cX10_keep 27 = .ok (.aload_n 0, 1) := by decide +kernel
theorem dX10_keep_28 : decode cX10_keep 28 = .ok (.getfield 197, 3) := by decide +kernel
theorem dX10_keep_31 : decode cX10_keep 31 = .ok (.iload_n 1, 1) := by decide +kernel
theorem dX10_keep_32 : decode cX10_keep 32 = .ok (.iastore, 1) := by decide +kernel
theorem dX10_keep_33 : decode cX10_keep 33 = .ok (.aload_n 0, 1) := by decide +kernel
theorem dX10_keep_34 : decode cX10_keep 34 = .ok (.dup, 1) := by decide +kernel
theorem dX10_keep_35 : decode cX10_keep 35 = .ok (.getfield 197, 3) := by decide +kernel
theorem dX10_keep_38 : decode cX10_keep 38 = .ok (.iconst 1, 1) := by decide +kernel
theorem dX10_keep_39 : decode cX10_keep 39 = .ok (.iadd, 1) := by decide +kernel
theorem dX10_keep_40 : decode cX10_keep 40 = .ok (.putfield 197, 3) := by decide +kernel
theorem dX10_keep_43 : decode cX10_keep 43 = .ok (.return_, 1) := by decide +kernel
theorem dX10_begin_0 : decode cX10_begin 0 = .ok (.aload_n 0, 1) := by decide +kernel
theorem dX10_begin_1 : decode cX10_begin 1 = .ok (.aload_n 0, 1) := by decide +kernel
theorem dX10_begin_2 : decode cX10_begin 2 = .ok (.getfield 204, 3) := by decide +kernel
theorem dX10_begin_5 : decode cX10_begin 5 = .ok (.bipush 12, 2) := by decide +kernel
theorem dX10_begin_7 : decode cX10_begin 7 = .ok (.if_icmp .ne 7, 3) := by decide +kernel
theorem dX10_begin_10 : decode cX10_begin 10 = .ok (.iconst 1, 1) := by decide +kernel
theorem dX10_begin_11 : decode cX10_begin 11 = .ok (.goto 4, 3) := by decide +kernel
theorem dX10_begin_14 : decode cX10_begin 14 = .ok (.iconst 0, 1) := by decide +kernel
theorem dX10_begin_15 : decode cX10_begin 15 = .ok (.invokevirtual 88, 3) := by decide +kernel
theorem dX10_begin_18 : decode cX10_begin 18 = .ok (.ifCond .eq 5, 3) := by decide +kernel
theorem dX10_begin_21 : decode cX10_begin 21 = .ok (.iconst 0, 1) := by decide +kernel
theorem dX10_begin_22 : decode cX10_begin 22 = .ok (.ireturn, 1) := by decide +kernel
theorem dX10_begin_23 : decode cX10_begin 23 = .ok (.aload_n 0, 1) := by decide +kernel
theorem dX10_begin_24 : decode cX10_begin 24 = .ok (.getfield 82, 3) := by decide +kernel
theorem dX10_begin_27 : decode cX10_begin 27 = .ok (.aload_n 0, 1) := by decide +kernel
theorem dX10_begin_28 : decode cX10_begin 28 = .ok (.getfield 204, 3) := by decide +kernel
theorem dX10_begin_31 : decode cX10_begin 31 = .ok (.aload_n 0, 1) := by decide +kernel
theorem dX10_begin_32 : decode cX10_begin 32 = .ok (.getfield 197, 3) := by decide +kernel
theorem dX10_begin_35 : decode cX10_begin 35 = .ok (.iastore, 1) := by decide +kernel
theorem dX10_begin_36 : decode cX10_begin 36 = .ok (.aload_n 0, 1) := by decide +kernel
theorem dX10_begin_37 : decode cX10_begin 37 = .ok (.dup, 1) := by decide +kernel
theorem dX10_begin_38 : decode cX10_begin 38 = .ok (.getfield 204, 3) := by decide +kernel
theorem dX10_begin_41 : decode cX10_begin 41 = .ok (.iconst 1, 1) := by decide +kernel
theorem dX10_begin_42 : decode cX10_begin 42 = .ok (.iadd, 1) := by decide +kernel
theorem dX10_begin_43 : decode cX10_begin 43 = .ok (.putfield 204, 3) := by decide +kernel
theorem dX10_begin_46 : decode cX10_begin 46 = .ok (.iconst 0, 1) := by decide +kernel
theorem dX10_begin_47 : decode cX10_begin 47 = .ok (.istore_n 1, 1) := by decide +kernel
theorem dX10_begin_48 : decode cX10_begin 48 = .ok (.iload_n 1, 1) := by decide +kernel
theorem dX10_begin_49 : decode cX10_begin 49 = .ok (.bipush 100, 2) := by decide +kernel
theorem dX10_begin_51 : decode cX10_begin 51 = .ok (.if_icmp .ge 78, 3) := by decide +kernel
theorem dX10_begin_54 : decode cX10_begin 54 = .ok (.aload_n 0, 1) := by decide +kernel
theorem dX10_begin_55 : decode cX10_begin 55 = .ok (.aload_n 0, 1) := by decide +kernel
theorem dX10_begin_56 : decode cX10_begin 56 = .ok (.getfield 26, 3) := by decide +kernel
theorem dX10_begin_59 : decode cX10_begin 59 = .ok (.iload_n 1, 1) := by decide +kernel
theorem dX10_begin_60 : decode cX10_begin 60 = .ok (.baload, 1) := by decide +kernel
theorem dX10_begin_61 : decode cX10_begin 61 = .ok (.ifCond .eq 12, 3) := by decide +kernel
theorem dX10_begin_64 : decode cX10_begin 64 = .ok (.aload_n 0, 1) := by decide +kernel
theorem dX10_begin_65 : decode cX10_begin 65 = .ok (.getfield 30, 3) := by decide +kernel
theorem dX10_begin_68 : decode cX10_begin 68 = .ok (.iload_n 1, 1) := by decide +kernel
theorem dX10_begin_69 : decode cX10_begin 69 = .ok (.iaload, 1) := by decide +kernel
theorem dX10_begin_70 : decode cX10_begin 70 = .ok (.goto 4, 3) := by decide +kernel
theorem dX10_begin_73 : decode cX10_begin 73 = .ok (.iconst (-1), 1) := by decide +kernel
theorem dX10_begin_74 : decode cX10_begin 74 = .ok (.invokevirtual 207, 3) := by decide +kernel
theorem dX10_begin_77 : decode cX10_begin 77 = .ok (.aload_n 0, 1) := by decide +kernel
theorem dX10_begin_78 : decode cX10_begin 78 = .ok (.getfield 26, 3) := by decide +kernel
theorem dX10_begin_81 : decode cX10_begin 81 = .ok (.iload_n 1, 1) := by decide +kernel
theorem dX10_begin_82 : decode cX10_begin 82 = .ok (.baload, 1) := by decide +kernel
theorem dX10_begin_83 : decode cX10_begin 83 = .ok (.ifCond .ne 6, 3) := by decide +kernel
theorem dX10_begin_86 : decode cX10_begin 86 = .ok (.goto 37, 3) := by decide +kernel
theorem dX10_begin_89 : decode cX10_begin 89 = .ok (.aload_n 0, 1) := by decide +kernel
theorem dX10_begin_90 : decode cX10_begin 90 = .ok (.aload_n 0, 1) := by decide +kernel
theorem dX10_begin_91 : decode cX10_begin 91 = .ok (.getfield 33, 3) := by decide +kernel
theorem dX10_begin_94 : decode cX10_begin 94 = .ok (.iload_n 1, 1) := by decide +kernel
theorem dX10_begin_95 : decode cX10_begin 95 = .ok (.iaload, 1) := by decide +kernel
theorem dX10_begin_96 : decode cX10_begin 96 = .ok (.invokevirtual 207, 3) := by decide +kernel
theorem dX10_begin_99 : decode cX10_begin 99 = .ok (.iconst 0, 1) := by decide +kernel
theorem dX10_begin_100 : decode cX10_begin 100 = .ok (.istore_n 2, 1) := by decide +kernel
theorem dX10_begin_101 : decode cX10_begin 101 = .ok (.iload_n 2, 1) := by decide +kernel
theorem dX10_begin_102 : decode cX10_begin 102 = .ok (.bipush 10, 2) := by decide +kernel
theorem dX10_begin_104 : decode cX10_begin 104 = .ok (.if_icmp .ge 19, 3) := by decide +kernel
theorem dX10_begin_107 : decode cX10_begin 107 = .ok (.aload_n 0, 1) := by decide +kernel
theorem dX10_begin_108 : decode cX10_begin 108 = .ok (.iload_n 2, 1) := by decide +kernel
theorem dX10_begin_109 : decode cX10_begin 109 = .ok (.bipush 100, 2) := by decide +kernel
theorem dX10_begin_111 : decode cX10_begin 111 = .ok (.imul, 1) := by decide +kernel
theorem dX10_begin_112 : decode cX10_begin 112 = .ok (.iload_n 1, 1) := by decide +kernel
theorem dX10_begin_113 : decode cX10_begin 113 = .ok (.iadd, 1) := by decide +kernel
theorem dX10_begin_114 : decode cX10_begin 114 = .ok (.invokevirtual 210, 3) := by decide +kernel
theorem dX10_begin_117 : decode cX10_begin 117 = .ok (.iinc 2 1, 3) := by decide +kernel
theorem dX10_begin_120 : decode cX10_begin 120 = .ok (.goto (-19), 3) := by decide +kernel
theorem dX10_begin_123 : decode cX10_begin 123 = .ok (.iinc 1 1, 3) := by decide +kernel
theorem dX10_begin_126 : decode cX10_begin 126 = .ok (.goto (-78), 3) := by decide +kernel
theorem dX10_begin_129 : decode cX10_begin 129 = .ok (.aload_n 0, 1) := by decide +kernel
theorem dX10_begin_130 : decode cX10_begin 130 = .ok (.getfield 204, 3) := by decide +kernel
theorem dX10_begin_133 : decode cX10_begin 133 = .ok (.ireturn, 1) := by decide +kernel
theorem dX10_keepRows_0 : decode cX10_keepRows 0 = .ok (.aload_n 0, 1) := by decide +kernel
theorem dX10_keepRows_1 : decode cX10_keepRows 1 = .ok (.aload_n 0, 1) := by decide +kernel
theorem dX10_keepRows_2 : decode cX10_keepRows 2 = .ok (.getfield 36, 3) := by decide +kernel
theorem dX10_keepRows_5 : decode cX10_keepRows 5 = .ok (.iload_n 1, 1) := by decide +kernel
theorem dX10_keepRows_6 : decode cX10_keepRows 6 = .ok (.iaload, 1) := by decide +kernel
theorem dX10_keepRows_7 : decode cX10_keepRows 7 = .ok (.invokevirtual 207, 3) := by decide +kernel
theorem dX10_keepRows_10 : decode cX10_keepRows 10 = .ok (.iconst 0, 1) := by decide +kernel
theorem dX10_keepRows_11 : decode cX10_keepRows 11 = .ok (.istore_n 2, 1) := by decide +kernel
theorem dX10_keepRows_12 : decode cX10_keepRows 12 = .ok (.iload_n 2, 1) := by decide +kernel
theorem dX10_keepRows_13 : decode cX10_keepRows 13 = .ok (.aload_n 0, 1) := by decide +kernel
theorem dX10_keepRows_14 : decode cX10_keepRows 14 = .ok (.getfield 36, 3) := by decide +kernel
theorem dX10_keepRows_17 : decode cX10_keepRows 17 = .ok (.iload_n 1, 1) := by decide +kernel
theorem dX10_keepRows_18 : decode cX10_keepRows 18 = .ok (.iaload, 1) := by decide +kernel
theorem dX10_keepRows_19 : decode cX10_keepRows 19 = .ok (.if_icmp .ge 24, 3) := by decide +kernel
theorem dX10_keepRows_22 : decode cX10_keepRows 22 = .ok (.aload_n 0, 1) := by decide +kernel
theorem dX10_keepRows_23 : decode cX10_keepRows 23 = .ok (.aload_n 0, 1) := by decide +kernel
theorem dX10_keepRows_24 : decode cX10_keepRows 24 = .ok (.getfield 42, 3) := by decide +kernel
theorem dX10_keepRows_27 : decode cX10_keepRows 27 = .ok (.iload_n 1, 1) := by decide +kernel
theorem dX10_keepRows_28 : decode cX10_keepRows 28 = .ok (.bipush 12, 2) := by decide +kernel
theorem dX10_keepRows_30 : decode cX10_keepRows 30 = .ok (.imul, 1) := by decide +kernel
theorem dX10_keepRows_31 : decode cX10_keepRows 31 = .ok (.iload_n 2, 1) := by decide +kernel
theorem dX10_keepRows_32 : decode cX10_keepRows 32 = .ok (.iadd, 1) := by decide +kernel
theorem dX10_keepRows_33 : decode cX10_keepRows 33 = .ok (.iaload, 1) := by decide +kernel
theorem dX10_keepRows_34 : decode cX10_keepRows 34 = .ok (.invokevirtual 207, 3) := by decide +kernel
theorem dX10_keepRows_37 : decode cX10_keepRows 37 = .ok (.iinc 2 1, 3) := by decide +kernel
theorem dX10_keepRows_40 : decode cX10_keepRows 40 = .ok (.goto (-28), 3) := by decide +kernel
theorem dX10_keepRows_43 : decode cX10_keepRows 43 = .ok (.aload_n 0, 1) := by decide +kernel
theorem dX10_keepRows_44 : decode cX10_keepRows 44 = .ok (.aload_n 0, 1) := by decide +kernel
theorem dX10_keepRows_45 : decode cX10_keepRows 45 = .ok (.getfield 39, 3) := by decide +kernel
theorem dX10_keepRows_48 : decode cX10_keepRows 48 = .ok (.iload_n 1, 1) := by decide +kernel
theorem dX10_keepRows_49 : decode cX10_keepRows 49 = .ok (.iaload, 1) := by decide +kernel
theorem dX10_keepRows_50 : decode cX10_keepRows 50 = .ok (.invokevirtual 207, 3) := by decide +kernel
theorem dX10_keepRows_53 : decode cX10_keepRows 53 = .ok (.iconst 0, 1) := by decide +kernel
theorem dX10_keepRows_54 : decode cX10_keepRows 54 = .ok (.istore_n 2, 1) := by decide +kernel
theorem dX10_keepRows_55 : decode cX10_keepRows 55 = .ok (.iload_n 2, 1) := by decide +kernel
theorem dX10_keepRows_56 : decode cX10_keepRows 56 = .ok (.aload_n 0, 1) := by decide +kernel
theorem dX10_keepRows_57 : decode cX10_keepRows 57 = .ok (.getfield 39, 3) := by decide +kernel
theorem dX10_keepRows_60 : decode cX10_keepRows 60 = .ok (.iload_n 1, 1) := by decide +kernel
theorem dX10_keepRows_61 : decode cX10_keepRows 61 = .ok (.iaload, 1) := by decide +kernel
theorem dX10_keepRows_62 : decode cX10_keepRows 62 = .ok (.if_icmp .ge 24, 3) := by decide +kernel
theorem dX10_keepRows_65 : decode cX10_keepRows 65 = .ok (.aload_n 0, 1) := by decide +kernel
theorem dX10_keepRows_66 : decode cX10_keepRows 66 = .ok (.aload_n 0, 1) := by decide +kernel
theorem dX10_keepRows_67 : decode cX10_keepRows 67 = .ok (.getfield 45, 3) := by decide +kernel
theorem dX10_keepRows_70 : decode cX10_keepRows 70 = .ok (.iload_n 1, 1) := by decide +kernel
theorem dX10_keepRows_71 : decode cX10_keepRows 71 = .ok (.bipush 12, 2) := by decide +kernel
theorem dX10_keepRows_73 : decode cX10_keepRows 73 = .ok (.imul, 1) := by decide +kernel
theorem dX10_keepRows_74 : decode cX10_keepRows 74 = .ok (.iload_n 2, 1) := by decide +kernel
theorem dX10_keepRows_75 : decode cX10_keepRows 75 = .ok (.iadd, 1) := by decide +kernel
theorem dX10_keepRows_76 : decode cX10_keepRows 76 = .ok (.iaload, 1) := by decide +kernel
theorem dX10_keepRows_77 : decode cX10_keepRows 77 = .ok (.invokevirtual 207, 3) := by decide +kernel
theorem dX10_keepRows_80 : decode cX10_keepRows 80 = .ok (.iinc 2 1, 3) := by decide +kernel
theorem dX10_keepRows_83 : decode cX10_keepRows 83 = .ok (.goto (-28), 3) := by decide +kernel
theorem dX10_keepRows_86 : decode cX10_keepRows 86 = .ok (.return_, 1) := by decide +kernel
theorem dX10_next_0 : decode cX10_next 0 = .ok (.aload_n 0, 1) := by decide +kernel
theorem dX10_next_1 : decode cX10_next 1 = .ok (.dup, 1) := by decide +kernel
theorem dX10_next_2 : decode cX10_next 2 = .ok (.getfield 213, 3) := by decide +kernel
theorem dX10_next_5 : decode cX10_next 5 = .ok (.iconst 1, 1) := by decide +kernel
theorem dX10_next_6 : decode cX10_next 6 = .ok (.iadd, 1) := by decide +kernel
theorem dX10_next_7 : decode cX10_next 7 = .ok (.putfield 213, 3) := by decide +kernel
theorem dX10_next_10 : decode cX10_next 10 = .ok (.aload_n 0, 1) := by decide +kernel
theorem dX10_next_11 : decode cX10_next 11 = .ok (.getfield 79, 3) := by decide +kernel
theorem dX10_next_14 : decode cX10_next 14 = .ok (.aload_n 0, 1) := by decide +kernel
theorem dX10_next_15 : decode cX10_next 15 = .ok (.getfield 213, 3) := by decide +kernel
theorem dX10_next_18 : decode cX10_next 18 = .ok (.iconst 1, 1) := by decide +kernel
theorem dX10_next_19 : decode cX10_next 19 = .ok (.isub, 1) := by decide +kernel
theorem dX10_next_20 : decode cX10_next 20 = .ok (.iaload, 1) := by decide +kernel
theorem dX10_next_21 : decode cX10_next 21 = .ok (.ireturn, 1) := by decide +kernel
theorem dX10_end_0 : decode cX10_end 0 = .ok (.aload_n 0, 1) := by decide +kernel
theorem dX10_end_1 : decode cX10_end 1 = .ok (.aload_n 0, 1) := by decide +kernel
theorem dX10_end_2 : decode cX10_end 2 = .ok (.getfield 204, 3) := by decide +kernel
theorem dX10_end_5 : decode cX10_end 5 = .ok (.ifCond .ne 7, 3) := by decide +kernel
theorem dX10_end_8 : decode cX10_end 8 = .ok (.iconst 1, 1) := by decide +kernel
theorem dX10_end_9 : decode cX10_end 9 = .ok (.goto 4, 3) := by decide +kernel
theorem dX10_end_12 : decode cX10_end 12 = .ok (.iconst 0, 1) := by decide +kernel
theorem dX10_end_13 : decode cX10_end 13 = .ok (.invokevirtual 88, 3) := by decide +kernel
theorem dX10_end_16 : decode cX10_end 16 = .ok (.ifCond .eq 5, 3) := by decide +kernel
theorem dX10_end_19 : decode cX10_end 19 = .ok (.iconst 0, 1) := by decide +kernel
theorem dX10_end_20 : decode cX10_end 20 = .ok (.ireturn, 1) := by decide +kernel
theorem dX10_end_21 : decode cX10_end 21 = .ok (.aload_n 0, 1) := by decide +kernel
theorem dX10_end_22 : decode cX10_end 22 = .ok (.dup, 1) := by decide +kernel
theorem dX10_end_23 : decode cX10_end 23 = .ok (.getfield 204, 3) := by decide +kernel
theorem dX10_end_26 : decode cX10_end 26 = .ok (.iconst 1, 1) := by decide +kernel
theorem dX10_end_27 : decode cX10_end 27 = .ok (.isub, 1) := by decide +kernel
theorem dX10_end_28 : decode cX10_end 28 = .ok (.putfield 204, 3) := by decide +kernel
theorem dX10_end_31 : decode cX10_end 31 = .ok (.iload_n 1, 1) := by decide +kernel
theorem dX10_end_32 : decode cX10_end 32 = .ok (.ifCond .ne 7, 3) := by decide +kernel
theorem dX10_end_35 : decode cX10_end 35 = .ok (.aload_n 0, 1) := by decide +kernel
theorem dX10_end_36 : decode cX10_end 36 = .ok (.invokevirtual 216, 3) := by decide +kernel
theorem dX10_end_39 : decode cX10_end 39 = .ok (.aload_n 0, 1) := by decide +kernel
theorem dX10_end_40 : decode cX10_end 40 = .ok (.aload_n 0, 1) := by decide +kernel
theorem dX10_end_41 : decode cX10_end 41 = .ok (.getfield 82, 3) := by decide +kernel
theorem dX10_end_44 : decode cX10_end 44 = .ok (.aload_n 0, 1) := by decide +kernel
theorem dX10_end_45 : decode cX10_end 45 = .ok (.getfield 204, 3) := by decide +kernel
theorem dX10_end_48 : decode cX10_end 48 = .ok (.iaload, 1) := by decide +kernel
theorem dX10_end_49 : decode cX10_end 49 = .ok (.putfield 197, 3) := by decide +kernel
theorem dX10_end_52 : decode cX10_end 52 = .ok (.aload_n 0, 1) := by decide +kernel
theorem dX10_end_53 : decode cX10_end 53 = .ok (.getfield 204, 3) := by decide +kernel
theorem dX10_end_56 : decode cX10_end 56 = .ok (.ireturn, 1) := by decide +kernel
theorem dX10_takeBack_0 : decode cX10_takeBack 0 = .ok (.aload_n 0, 1) := by decide +kernel
theorem dX10_takeBack_1 : decode cX10_takeBack 1 = .ok (.aload_n 0, 1) := by decide +kernel
theorem dX10_takeBack_2 : decode cX10_takeBack 2 = .ok (.getfield 82, 3) := by decide +kernel
theorem dX10_takeBack_5 : decode cX10_takeBack 5 = .ok (.aload_n 0, 1) := by decide +kernel
theorem dX10_takeBack_6 : decode cX10_takeBack 6 = .ok (.getfield 204, 3) := by decide +kernel
theorem dX10_takeBack_9 : decode cX10_takeBack 9 = .ok (.iaload, 1) := by decide +kernel
theorem dX10_takeBack_10 : decode cX10_takeBack 10 = .ok (.putfield 213, 3) := by decide +kernel
theorem dX10_takeBack_13 : decode cX10_takeBack 13 = .ok (.aload_n 0, 1) := by decide +kernel
theorem dX10_takeBack_14 : decode cX10_takeBack 14 = .ok (.iconst 0, 1) := by decide +kernel
theorem dX10_takeBack_15 : decode cX10_takeBack 15 = .ok (.putfield 95, 3) := by decide +kernel
theorem dX10_takeBack_18 : decode cX10_takeBack 18 = .ok (.iconst 0, 1) := by decide +kernel
theorem dX10_takeBack_19 : decode cX10_takeBack 19 = .ok (.istore_n 1, 1) := by decide +kernel
theorem dX10_takeBack_20 : decode cX10_takeBack 20 = .ok (.iload_n 1, 1) := by decide +kernel
theorem dX10_takeBack_21 : decode cX10_takeBack 21 = .ok (.bipush 100, 2) := by decide +kernel
theorem dX10_takeBack_23 : decode cX10_takeBack 23 = .ok (.if_icmp .ge 92, 3) := by decide +kernel
theorem dX10_takeBack_26 : decode cX10_takeBack 26 = .ok (.aload_n 0, 1) := by decide +kernel
theorem dX10_takeBack_27 : decode cX10_takeBack 27 = .ok (.invokevirtual 219, 3) := by decide +kernel
theorem dX10_takeBack_30 : decode cX10_takeBack 30 = .ok (.istore_n 2, 1) := by decide +kernel
theorem dX10_takeBack_31 : decode cX10_takeBack 31 = .ok (.aload_n 0, 1) := by decide +kernel
theorem dX10_takeBack_32 : decode cX10_takeBack 32 = .ok (.getfield 26, 3) := by decide +kernel
theorem dX10_takeBack_35 : decode cX10_takeBack 35 = .ok (.iload_n 1, 1) := by decide +kernel
theorem dX10_takeBack_36 : decode cX10_takeBack 36 = .ok (.iload_n 2, 1) := by decide +kernel
theorem dX10_takeBack_37 : decode cX10_takeBack 37 = .ok (.ifCond .lt 7, 3) := by decide +kernel
theorem dX10_takeBack_40 : decode cX10_takeBack 40 = .ok (.iconst 1, 1) := by decide +kernel
theorem dX10_takeBack_41 : decode cX10_takeBack 41 = .ok (.goto 4, 3) := by decide +kernel
theorem dX10_takeBack_44 : decode cX10_takeBack 44 = .ok (.iconst 0, 1) := by decide +kernel
theorem dX10_takeBack_45 : decode cX10_takeBack 45 = .ok (.bastore, 1) := by decide +kernel
theorem dX10_takeBack_46 : decode cX10_takeBack 46 = .ok (.aload_n 0, 1) := by decide +kernel
theorem dX10_takeBack_47 : decode cX10_takeBack 47 = .ok (.getfield 26, 3) := by decide +kernel
theorem dX10_takeBack_50 : decode cX10_takeBack 50 = .ok (.iload_n 1, 1) := by decide +kernel
theorem dX10_takeBack_51 : decode cX10_takeBack 51 = .ok (.baload, 1) := by decide +kernel
theorem dX10_takeBack_52 : decode cX10_takeBack 52 = .ok (.ifCond .ne 6, 3) := by decide +kernel
theorem dX10_takeBack_55 : decode cX10_takeBack 55 = .ok (.goto 54, 3) := by decide +kernel
theorem dX10_takeBack_58 : decode cX10_takeBack 58 = .ok (.aload_n 0, 1) := by decide +kernel
theorem dX10_takeBack_59 : decode cX10_takeBack 59 = .ok (.getfield 30, 3) := by decide +kernel
theorem dX10_takeBack_62 : decode cX10_takeBack 62 = .ok (.iload_n 1, 1) := by decide +kernel
theorem dX10_takeBack_63 : decode cX10_takeBack 63 = .ok (.iload_n 2, 1) := by decide +kernel
theorem dX10_takeBack_64 : decode cX10_takeBack 64 = .ok (.iastore, 1) := by decide +kernel
theorem dX10_takeBack_65 : decode cX10_takeBack 65 = .ok (.aload_n 0, 1) := by decide +kernel
theorem dX10_takeBack_66 : decode cX10_takeBack 66 = .ok (.getfield 33, 3) := by decide +kernel
theorem dX10_takeBack_69 : decode cX10_takeBack 69 = .ok (.iload_n 1, 1) := by decide +kernel
theorem dX10_takeBack_70 : decode cX10_takeBack 70 = .ok (.aload_n 0, 1) := by decide +kernel
theorem dX10_takeBack_71 : decode cX10_takeBack 71 = .ok (.invokevirtual 219, 3) := by decide +kernel
theorem dX10_takeBack_74 : decode cX10_takeBack 74 = .ok (.iastore, 1) := by decide +kernel
theorem dX10_takeBack_75 : decode cX10_takeBack 75 = .ok (.aload_n 0, 1) := by decide +kernel
theorem dX10_takeBack_76 : decode cX10_takeBack 76 = .ok (.dup, 1) := by decide +kernel
theorem dX10_takeBack_77 : decode cX10_takeBack 77 = .ok (.getfield 95, 3) := by decide +kernel
theorem dX10_takeBack_80 : decode cX10_takeBack 80 = .ok (.iconst 1, 1) := by decide +kernel
theorem dX10_takeBack_81 : decode cX10_takeBack 81 = .ok (.iadd, 1) := by decide +kernel
theorem dX10_takeBack_82 : decode cX10_takeBack 82 = .ok (.putfield 95, 3) := by decide +kernel
theorem dX10_takeBack_85 : decode cX10_takeBack 85 = .ok (.iconst 0, 1) := by decide +kernel
theorem dX10_takeBack_86 : decode cX10_takeBack 86 = .ok (.istore_n 3, 1) := by decide +kernel
theorem dX10_takeBack_87 : decode cX10_takeBack 87 = .ok (.iload_n 3, 1) := by decide +kernel
theorem dX10_takeBack_88 : decode cX10_takeBack 88 = .ok (.bipush 10, 2) := by decide +kernel
theorem dX10_takeBack_90 : decode cX10_takeBack 90 = .ok (.if_icmp .ge 19, 3) := by decide +kernel
theorem dX10_takeBack_93 : decode cX10_takeBack 93 = .ok (.aload_n 0, 1) := by decide +kernel
theorem dX10_takeBack_94 : decode cX10_takeBack 94 = .ok (.iload_n 3, 1) := by decide +kernel
theorem dX10_takeBack_95 : decode cX10_takeBack 95 = .ok (.bipush 100, 2) := by decide +kernel
theorem dX10_takeBack_97 : decode cX10_takeBack 97 = .ok (.imul, 1) := by decide +kernel
theorem dX10_takeBack_98 : decode cX10_takeBack 98 = .ok (.iload_n 1, 1) := by decide +kernel
theorem dX10_takeBack_99 : decode cX10_takeBack 99 = .ok (.iadd, 1) := by decide +kernel
theorem dX10_takeBack_100 : decode cX10_takeBack 100 = .ok (.invokevirtual 223, 3) := by decide +kernel
theorem dX10_takeBack_103 : decode cX10_takeBack 103 = .ok (.iinc 3 1, 3) := by decide +kernel
theorem dX10_takeBack_106 : decode cX10_takeBack 106 = .ok (.goto (-19), 3) := by decide +kernel
theorem dX10_takeBack_109 : decode cX10_takeBack 109 = .ok (.iinc 1 1, 3) := by decide +kernel
theorem dX10_takeBack_112 : decode cX10_takeBack 112 = .ok (.goto (-92), 3) := by decide +kernel
theorem dX10_takeBack_115 : decode cX10_takeBack 115 = .ok (.return_, 1) := by decide +kernel
theorem dX10_readRows_0 : decode cX10_readRows 0 = .ok (.aload_n 0, 1) := by decide +kernel
theorem dX10_readRows_1 : decode cX10_readRows 1 = .ok (.getfield 36, 3) := by decide +kernel
theorem dX10_readRows_4 : decode cX10_readRows 4 = .ok (.iload_n 1, 1) := by decide +kernel
theorem dX10_readRows_5 : decode cX10_readRows 5 = .ok (.aload_n 0, 1) := by decide +kernel
theorem dX10_readRows_6 : decode cX10_readRows 6 = .ok (.invokevirtual 219, 3) := by decide +kernel
theorem dX10_readRows_9 : decode cX10_readRows 9 = .ok (.iastore, 1) := by decide +kernel
theorem dX10_readRows_10 : decode cX10_readRows 10 = .ok (.iconst 0, 1) := by decide +kernel
theorem dX10_readRows_11 : decode cX10_readRows 11 = .ok (.istore_n 2, 1) := by decide +kernel
theorem dX10_readRows_12 : decode cX10_readRows 12 = .ok (.iload_n 2, 1) := by decide +kernel
theorem dX10_readRows_13 : decode cX10_readRows 13 = .ok (.aload_n 0, 1) := by decide +kernel
theorem dX10_readRows_14 : decode cX10_readRows 14 = .ok (.getfield 36, 3) := by decide +kernel
theorem dX10_readRows_17 : decode cX10_readRows 17 = .ok (.iload_n 1, 1) := by decide +kernel
theorem dX10_readRows_18 : decode cX10_readRows 18 = .ok (.iaload, 1) := by decide +kernel
theorem dX10_readRows_19 : decode cX10_readRows 19 = .ok (.if_icmp .ge 24, 3) := by decide +kernel
theorem dX10_readRows_22 : decode cX10_readRows 22 = .ok (.aload_n 0, 1) := by decide +kernel
theorem dX10_readRows_23 : decode cX10_readRows 23 = .ok (.getfield 42, 3) := by decide +kernel
theorem dX10_readRows_26 : decode cX10_readRows 26 = .ok (.iload_n 1, 1) := by decide +kernel
theorem dX10_readRows_27 : decode cX10_readRows 27 = .ok (.bipush 12, 2) := by decide +kernel
theorem dX10_readRows_29 : decode cX10_readRows 29 = .ok (.imul, 1) := by decide +kernel
theorem dX10_readRows_30 : decode cX10_readRows 30 = .ok (.iload_n 2, 1) := by decide +kernel
theorem dX10_readRows_31 : decode cX10_readRows 31 = .ok (.iadd, 1) := by decide +kernel
theorem dX10_readRows_32 : decode cX10_readRows 32 = .ok (.aload_n 0, 1) := by decide +kernel
theorem dX10_readRows_33 : decode cX10_readRows 33 = .ok (.invokevirtual 219, 3) := by decide +kernel
theorem dX10_readRows_36 : decode cX10_readRows 36 = .ok (.iastore, 1) := by decide +kernel
theorem dX10_readRows_37 : decode cX10_readRows 37 = .ok (.iinc 2 1, 3) := by decide +kernel
theorem dX10_readRows_40 : decode cX10_readRows 40 = .ok (.goto (-28), 3) := by decide +kernel
theorem dX10_readRows_43 : decode cX10_readRows 43 = .ok (.aload_n 0, 1) := by decide +kernel
theorem dX10_readRows_44 : decode cX10_readRows 44 = .ok (.getfield 39, 3) := by decide +kernel
theorem dX10_readRows_47 : decode cX10_readRows 47 = .ok (.iload_n 1, 1) := by decide +kernel
theorem dX10_readRows_48 : decode cX10_readRows 48 = .ok (.aload_n 0, 1) := by decide +kernel
theorem dX10_readRows_49 : decode cX10_readRows 49 = .ok (.invokevirtual 219, 3) := by decide +kernel
theorem dX10_readRows_52 : decode cX10_readRows 52 = .ok (.iastore, 1) := by decide +kernel
theorem dX10_readRows_53 : decode cX10_readRows 53 = .ok (.iconst 0, 1) := by decide +kernel
theorem dX10_readRows_54 : decode cX10_readRows 54 = .ok (.istore_n 2, 1) := by decide +kernel
theorem dX10_readRows_55 : decode cX10_readRows 55 = .ok (.iload_n 2, 1) := by decide +kernel
theorem dX10_readRows_56 : decode cX10_readRows 56 = .ok (.aload_n 0, 1) := by decide +kernel
theorem dX10_readRows_57 : decode cX10_readRows 57 = .ok (.getfield 39, 3) := by decide +kernel
theorem dX10_readRows_60 : decode cX10_readRows 60 = .ok (.iload_n 1, 1) := by decide +kernel
theorem dX10_readRows_61 : decode cX10_readRows 61 = .ok (.iaload, 1) := by decide +kernel
theorem dX10_readRows_62 : decode cX10_readRows 62 = .ok (.if_icmp .ge 24, 3) := by decide +kernel
theorem dX10_readRows_65 : decode cX10_readRows 65 = .ok (.aload_n 0, 1) := by decide +kernel
theorem dX10_readRows_66 : decode cX10_readRows 66 = .ok (.getfield 45, 3) := by decide +kernel
theorem dX10_readRows_69 : decode cX10_readRows 69 = .ok (.iload_n 1, 1) := by decide +kernel
theorem dX10_readRows_70 : decode cX10_readRows 70 = .ok (.bipush 12, 2) := by decide +kernel
theorem dX10_readRows_72 : decode cX10_readRows 72 = .ok (.imul, 1) := by decide +kernel
theorem dX10_readRows_73 : decode cX10_readRows 73 = .ok (.iload_n 2, 1) := by decide +kernel
theorem dX10_readRows_74 : decode cX10_readRows 74 = .ok (.iadd, 1) := by decide +kernel
theorem dX10_readRows_75 : decode cX10_readRows 75 = .ok (.aload_n 0, 1) := by decide +kernel
theorem dX10_readRows_76 : decode cX10_readRows 76 = .ok (.invokevirtual 219, 3) := by decide +kernel
theorem dX10_readRows_79 : decode cX10_readRows 79 = .ok (.iastore, 1) := by decide +kernel
theorem dX10_readRows_80 : decode cX10_readRows 80 = .ok (.iinc 2 1, 3) := by decide +kernel
theorem dX10_readRows_83 : decode cX10_readRows 83 = .ok (.goto (-28), 3) := by decide +kernel
theorem dX10_readRows_86 : decode cX10_readRows 86 = .ok (.return_, 1) := by decide +kernel
theorem dX10_count_0 : decode cX10_count 0 = .ok (.aload_n 0, 1) := by decide +kernel
theorem dX10_count_1 : decode cX10_count 1 = .ok (.iload_n 1, 1) := by decide +kernel
theorem dX10_count_2 : decode cX10_count 2 = .ok (.ifCond .lt 8, 3) := by decide +kernel
theorem dX10_count_5 : decode cX10_count 5 = .ok (.iload_n 1, 1) := by decide +kernel
theorem dX10_count_6 : decode cX10_count 6 = .ok (.iconst 5, 1) := by decide +kernel
theorem dX10_count_7 : decode cX10_count 7 = .ok (.if_icmp .le 7, 3) := by decide +kernel
theorem dX10_count_10 : decode cX10_count 10 = .ok (.iconst 1, 1) := by decide +kernel
theorem dX10_count_11 : decode cX10_count 11 = .ok (.goto 4, 3) := by decide +kernel
theorem dX10_count_14 : decode cX10_count 14 = .ok (.iconst 0, 1) := by decide +kernel
theorem dX10_count_15 : decode cX10_count 15 = .ok (.invokevirtual 88, 3) := by decide +kernel
theorem dX10_count_18 : decode cX10_count 18 = .ok (.ifCond .eq 5, 3) := by decide +kernel
theorem dX10_count_21 : decode cX10_count 21 = .ok (.iconst 0, 1) := by decide +kernel
theorem dX10_count_22 : decode cX10_count 22 = .ok (.ireturn, 1) := by decide +kernel
theorem dX10_count_23 : decode cX10_count 23 = .ok (.iload_n 1, 1) := by decide +kernel
theorem dX10_count_24 : decode cX10_count 24 = .ok (.tableswitch 61 0 4 #[36, 41, 46, 51, 56], 36) := by decide +kernel
theorem dX10_count_60 : decode cX10_count 60 = .ok (.aload_n 0, 1) := by decide +kernel
theorem dX10_count_61 : decode cX10_count 61 = .ok (.getfield 85, 3) := by decide +kernel
theorem dX10_count_64 : decode cX10_count 64 = .ok (.ireturn, 1) := by decide +kernel
theorem dX10_count_65 : decode cX10_count 65 = .ok (.aload_n 0, 1) := by decide +kernel
theorem dX10_count_66 : decode cX10_count 66 = .ok (.getfield 95, 3) := by decide +kernel
theorem dX10_count_69 : decode cX10_count 69 = .ok (.ireturn, 1) := by decide +kernel
theorem dX10_count_70 : decode cX10_count 70 = .ok (.aload_n 0, 1) := by decide +kernel
theorem dX10_count_71 : decode cX10_count 71 = .ok (.getfield 92, 3) := by decide +kernel
theorem dX10_count_74 : decode cX10_count 74 = .ok (.ireturn, 1) := by decide +kernel
theorem dX10_count_75 : decode cX10_count 75 = .ok (.aload_n 0, 1) := by decide +kernel
theorem dX10_count_76 : decode cX10_count 76 = .ok (.getfield 204, 3) := by decide +kernel
theorem dX10_count_79 : decode cX10_count 79 = .ok (.ireturn, 1) := by decide +kernel
theorem dX10_count_80 : decode cX10_count 80 = .ok (.aload_n 0, 1) := by decide +kernel
theorem dX10_count_81 : decode cX10_count 81 = .ok (.getfield 114, 3) := by decide +kernel
theorem dX10_count_84 : decode cX10_count 84 = .ok (.ireturn, 1) := by decide +kernel
theorem dX10_count_85 : decode cX10_count 85 = .ok (.iconst 0, 1) := by decide +kernel
theorem dX10_count_86 : decode cX10_count 86 = .ok (.istore_n 2, 1) := by decide +kernel
theorem dX10_count_87 : decode cX10_count 87 = .ok (.iconst 0, 1) := by decide +kernel
theorem dX10_count_88 : decode cX10_count 88 = .ok (.istore_n 3, 1) := by decide +kernel
theorem dX10_count_89 : decode cX10_count 89 = .ok (.iload_n 3, 1) := by decide +kernel
theorem dX10_count_90 : decode cX10_count 90 = .ok (.aload_n 0, 1) := by decide +kernel
theorem dX10_count_91 : decode cX10_count 91 = .ok (.getfield 85, 3) := by decide +kernel
theorem dX10_count_94 : decode cX10_count 94 = .ok (.if_icmp .ge 50, 3) := by decide +kernel
theorem dX10_count_97 : decode cX10_count 97 = .ok (.iconst 0, 1) := by decide +kernel
theorem dX10_count_98 : decode cX10_count 98 = .ok (.istore 4, 2) := by decide +kernel
theorem dX10_count_100 : decode cX10_count 100 = .ok (.iload 4, 2) := by decide +kernel
theorem dX10_count_102 : decode cX10_count 102 = .ok (.bipush 100, 2) := by decide +kernel
theorem dX10_count_104 : decode cX10_count 104 = .ok (.if_icmp .ge 34, 3) := by decide +kernel
theorem dX10_count_107 : decode cX10_count 107 = .ok (.aload_n 0, 1) := by decide +kernel
theorem dX10_count_108 : decode cX10_count 108 = .ok (.getfield 26, 3) := by decide +kernel
theorem dX10_count_111 : decode cX10_count 111 = .ok (.iload 4, 2) := by decide +kernel
theorem dX10_count_113 : decode cX10_count 113 = .ok (.baload, 1) := by decide +kernel
theorem dX10_count_114 : decode cX10_count 114 = .ok (.ifCond .eq 18, 3) := by decide +kernel
theorem dX10_count_117 : decode cX10_count 117 = .ok (.iload_n 2, 1) := by decide +kernel
theorem dX10_count_118 : decode cX10_count 118 = .ok (.aload_n 0, 1) := by decide +kernel
theorem dX10_count_119 : decode cX10_count 119 = .ok (.getfield 36, 3) := by decide +kernel
theorem dX10_count_122 : decode cX10_count 122 = .ok (.iload_n 3, 1) := by decide +kernel
theorem dX10_count_123 : decode cX10_count 123 = .ok (.bipush 100, 2) := by decide +kernel
theorem dX10_count_125 : decode cX10_count 125 = .ok (.imul, 1) := by decide +kernel
theorem dX10_count_126 : decode cX10_count 126 = .ok (.iload 4, 2) := by decide +kernel
theorem dX10_count_128 : decode cX10_count 128 = .ok (.iadd, 1) := by decide +kernel
theorem dX10_count_129 : decode cX10_count 129 = .ok (.iaload, 1) := by decide +kernel
theorem dX10_count_130 : decode cX10_count 130 = .ok (.iadd, 1) := by decide +kernel
theorem dX10_count_131 : decode cX10_count 131 = .ok (.istore_n 2, 1) := by decide +kernel
theorem dX10_count_132 : decode cX10_count 132 = .ok (.iinc 4 1, 3) := by decide +kernel
theorem dX10_count_135 : decode cX10_count 135 = .ok (.goto (-35), 3) := by decide +kernel
theorem dX10_count_138 : decode cX10_count 138 = .ok (.iinc 3 1, 3) := by decide +kernel
theorem dX10_count_141 : decode cX10_count 141 = .ok (.goto (-52), 3) := by decide +kernel
theorem dX10_count_144 : decode cX10_count 144 = .ok (.iload_n 2, 1) := by decide +kernel
theorem dX10_count_145 : decode cX10_count 145 = .ok (.ireturn, 1) := by decide +kernel
