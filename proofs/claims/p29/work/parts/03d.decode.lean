theorem dL_arePlans_229 : decode cL_arePlans 229 = .ok (.lload 13, 2) := by decide +kernel
theorem dL_arePlans_231 : decode cL_arePlans 231 = .ok (.lload 15, 2) := by decide +kernel
theorem dL_arePlans_233 : decode cL_arePlans 233 = .ok (.lsub, 1) := by decide +kernel
theorem dL_arePlans_234 : decode cL_arePlans 234 = .ok (.invokestatic 65, 3) := by decide +kernel
theorem dL_arePlans_237 : decode cL_arePlans 237 = .ok (.if_icmp .ne 64, 3) := by decide +kernel
theorem dL_arePlans_240 : decode cL_arePlans 240 = .ok (.aload_n 0, 1) := by decide +kernel
theorem dL_arePlans_241 : decode cL_arePlans 241 = .ok (.aload_n 2, 1) := by decide +kernel
theorem dL_arePlans_242 : decode cL_arePlans 242 = .ok (.iload 12, 2) := by decide +kernel
theorem dL_arePlans_244 : decode cL_arePlans 244 = .ok (.iaload, 1) := by decide +kernel
theorem dL_arePlans_245 : decode cL_arePlans 245 = .ok (.bipush 10, 2) := by decide +kernel
theorem dL_arePlans_247 : decode cL_arePlans 247 = .ok (.invokevirtual 59, 3) := by decide +kernel
theorem dL_arePlans_250 : decode cL_arePlans 250 = .ok (.aload_n 1, 1) := by decide +kernel
theorem dL_arePlans_251 : decode cL_arePlans 251 = .ok (.aload_n 2, 1) := by decide +kernel
theorem dL_arePlans_252 : decode cL_arePlans 252 = .ok (.iload 12, 2) := by decide +kernel
theorem dL_arePlans_254 : decode cL_arePlans 254 = .ok (.invokestatic 27, 3) := by decide +kernel
theorem dL_arePlans_257 : decode cL_arePlans 257 = .ok (.ifCond .eq 7, 3) := by decide +kernel
theorem dL_arePlans_260 : decode cL_arePlans 260 = .ok (.iconst 1, 1) := by decide +kernel
theorem dL_arePlans_261 : decode cL_arePlans 261 = .ok (.goto 4, 3) := by decide +kernel
theorem dL_arePlans_264 : decode cL_arePlans 264 = .ok (.iconst 0, 1) := by decide +kernel
theorem dL_arePlans_265 : decode cL_arePlans 265 = .ok (.if_icmp .ne 36, 3) := by decide +kernel
theorem dL_arePlans_268 : decode cL_arePlans 268 = .ok (.aload_n 0, 1) := by decide +kernel
theorem dL_arePlans_269 : decode cL_arePlans 269 = .ok (.aload_n 2, 1) := by decide +kernel
theorem dL_arePlans_270 : decode cL_arePlans 270 = .ok (.iload 12, 2) := by decide +kernel
theorem dL_arePlans_272 : decode cL_arePlans 272 = .ok (.iaload, 1) := by decide +kernel
theorem dL_arePlans_273 : decode cL_arePlans 273 = .ok (.bipush 11, 2) := by decide +kernel
theorem dL_arePlans_275 : decode cL_arePlans 275 = .ok (.invokevirtual 59, 3) := by decide +kernel
theorem dL_arePlans_278 : decode cL_arePlans 278 = .ok (.iload 11, 2) := by decide +kernel
theorem dL_arePlans_280 : decode cL_arePlans 280 = .ok (.if_icmp .ne 21, 3) := by decide +kernel
theorem dL_arePlans_283 : decode cL_arePlans 283 = .ok (.aload_n 0, 1) := by decide +kernel
theorem dL_arePlans_284 : decode cL_arePlans 284 = .ok (.aload_n 2, 1) := by decide +kernel
theorem dL_arePlans_285 : decode cL_arePlans 285 = .ok (.iload 12, 2) := by decide +kernel
theorem dL_arePlans_287 : decode cL_arePlans 287 = .ok (.iaload, 1) := by decide +kernel
theorem dL_arePlans_288 : decode cL_arePlans 288 = .ok (.bipush 12, 2) := by decide +kernel
theorem dL_arePlans_290 : decode cL_arePlans 290 = .ok (.invokevirtual 59, 3) := by decide +kernel
theorem dL_arePlans_293 : decode cL_arePlans 293 = .ok (.iconst (-1), 1) := by decide +kernel
theorem dL_arePlans_294 : decode cL_arePlans 294 = .ok (.if_icmp .ne 7, 3) := by decide +kernel
theorem dL_arePlans_297 : decode cL_arePlans 297 = .ok (.iconst 1, 1) := by decide +kernel
theorem dL_arePlans_298 : decode cL_arePlans 298 = .ok (.goto 4, 3) := by decide +kernel
theorem dL_arePlans_301 : decode cL_arePlans 301 = .ok (.iconst 0, 1) := by decide +kernel
theorem dL_arePlans_302 : decode cL_arePlans 302 = .ok (.istore 10, 2) := by decide +kernel
theorem dL_arePlans_304 : decode cL_arePlans 304 = .ok (.iinc 11 1, 3) := by decide +kernel
theorem dL_arePlans_307 : decode cL_arePlans 307 = .ok (.goto (-292), 3) := by decide +kernel
theorem dL_arePlans_310 : decode cL_arePlans 310 = .ok (.iload 10, 2) := by decide +kernel
theorem dL_arePlans_312 : decode cL_arePlans 312 = .ok (.ifCond .eq 54, 3) := by decide +kernel
theorem dL_arePlans_315 : decode cL_arePlans 315 = .ok (.aload_n 0, 1) := by decide +kernel
theorem dL_arePlans_316 : decode cL_arePlans 316 = .ok (.iconst 0, 1) := by decide +kernel
theorem dL_arePlans_317 : decode cL_arePlans 317 = .ok (.invokevirtual 69, 3) := by decide +kernel
theorem dL_arePlans_320 : decode cL_arePlans 320 = .ok (.aload_n 3, 1) := by decide +kernel
theorem dL_arePlans_321 : decode cL_arePlans 321 = .ok (.iconst 0, 1) := by decide +kernel
theorem dL_arePlans_322 : decode cL_arePlans 322 = .ok (.iaload, 1) := by decide +kernel
theorem dL_arePlans_323 : decode cL_arePlans 323 = .ok (.if_icmp .ne 43, 3) := by decide +kernel
theorem dL_arePlans_326 : decode cL_arePlans 326 = .ok (.aload_n 0, 1) := by decide +kernel
theorem dL_arePlans_327 : decode cL_arePlans 327 = .ok (.iconst 1, 1) := by decide +kernel
theorem dL_arePlans_328 : decode cL_arePlans 328 = .ok (.invokevirtual 69, 3) := by decide +kernel
theorem dL_arePlans_331 : decode cL_arePlans 331 = .ok (.iload 5, 2) := by decide +kernel
theorem dL_arePlans_333 : decode cL_arePlans 333 = .ok (.if_icmp .ne 33, 3) := by decide +kernel
theorem dL_arePlans_336 : decode cL_arePlans 336 = .ok (.aload_n 0, 1) := by decide +kernel
theorem dL_arePlans_337 : decode cL_arePlans 337 = .ok (.invokevirtual 72, 3) := by decide +kernel
theorem dL_arePlans_340 : decode cL_arePlans 340 = .ok (.lload 8, 2) := by decide +kernel
theorem dL_arePlans_342 : decode cL_arePlans 342 = .ok (.lconst 0, 1) := by decide +kernel
theorem dL_arePlans_343 : decode cL_arePlans 343 = .ok (.lcmp, 1) := by decide +kernel
theorem dL_arePlans_344 : decode cL_arePlans 344 = .ok (.ifCond .ne 7, 3) := by decide +kernel
theorem dL_arePlans_347 : decode cL_arePlans 347 = .ok (.dconst 1, 1) := by decide +kernel
theorem dL_arePlans_348 : decode cL_arePlans 348 = .ok (.goto 10, 3) := by decide +kernel
theorem dL_arePlans_351 : decode cL_arePlans 351 = .ok (.lload 6, 2) := by decide +kernel
theorem dL_arePlans_353 : decode cL_arePlans 353 = .ok (.l2d, 1) := by decide +kernel
theorem dL_arePlans_354 : decode cL_arePlans 354 = .ok (.lload 8, 2) := by decide +kernel
theorem dL_arePlans_356 : decode cL_arePlans 356 = .ok (.l2d, 1) := by decide +kernel
theorem dL_arePlans_357 : decode cL_arePlans 357 = .ok (.ddiv, 1) := by decide +kernel
theorem dL_arePlans_358 : decode cL_arePlans 358 = .ok (.dcmp .l, 1) := by decide +kernel
theorem dL_arePlans_359 : decode cL_arePlans 359 = .ok (.ifCond .ne 7, 3) := by decide +kernel
theorem dL_arePlans_362 : decode cL_arePlans 362 = .ok (.iconst 1, 1) := by decide +kernel
theorem dL_arePlans_363 : decode cL_arePlans 363 = .ok (.goto 4, 3) := by decide +kernel
theorem dL_arePlans_366 : decode cL_arePlans 366 = .ok (.iconst 0, 1) := by decide +kernel
theorem dL_arePlans_367 : decode cL_arePlans 367 = .ok (.ireturn, 1) := by decide +kernel
theorem dL_areTold_0 : decode cL_areTold 0 = .ok (.aload_n 0, 1) := by decide +kernel
theorem dL_areTold_1 : decode cL_areTold 1 = .ok (.iconst 2, 1) := by decide +kernel
theorem dL_areTold_2 : decode cL_areTold 2 = .ok (.invokevirtual 69, 3) := by decide +kernel
theorem dL_areTold_5 : decode cL_areTold 5 = .ok (.aload_n 1, 1) := by decide +kernel
theorem dL_areTold_6 : decode cL_areTold 6 = .ok (.bipush 35, 2) := by decide +kernel
theorem dL_areTold_8 : decode cL_areTold 8 = .ok (.iaload, 1) := by decide +kernel
theorem dL_areTold_9 : decode cL_areTold 9 = .ok (.if_icmp .ne 122, 3) := by decide +kernel
theorem dL_areTold_12 : decode cL_areTold 12 = .ok (.aload_n 0, 1) := by decide +kernel
theorem dL_areTold_13 : decode cL_areTold 13 = .ok (.iconst 3, 1) := by decide +kernel
theorem dL_areTold_14 : decode cL_areTold 14 = .ok (.invokevirtual 69, 3) := by decide +kernel
theorem dL_areTold_17 : decode cL_areTold 17 = .ok (.aload_n 3, 1) := by decide +kernel
theorem dL_areTold_18 : decode cL_areTold 18 = .ok (.iconst 1, 1) := by decide +kernel
theorem dL_areTold_19 : decode cL_areTold 19 = .ok (.iaload, 1) := by decide +kernel
theorem dL_areTold_20 : decode cL_areTold 20 = .ok (.if_icmp .ne 111, 3) := by decide +kernel
theorem dL_areTold_23 : decode cL_areTold 23 = .ok (.aload_n 0, 1) := by decide +kernel
theorem dL_areTold_24 : decode cL_areTold 24 = .ok (.iconst 4, 1) := by decide +kernel
theorem dL_areTold_25 : decode cL_areTold 25 = .ok (.invokevirtual 69, 3) := by decide +kernel
theorem dL_areTold_28 : decode cL_areTold 28 = .ok (.aload_n 3, 1) := by decide +kernel
theorem dL_areTold_29 : decode cL_areTold 29 = .ok (.iconst 2, 1) := by decide +kernel
theorem dL_areTold_30 : decode cL_areTold 30 = .ok (.iaload, 1) := by decide +kernel
theorem dL_areTold_31 : decode cL_areTold 31 = .ok (.if_icmp .ne 100, 3) := by decide +kernel
theorem dL_areTold_34 : decode cL_areTold 34 = .ok (.aload_n 0, 1) := by decide +kernel
theorem dL_areTold_35 : decode cL_areTold 35 = .ok (.iconst 5, 1) := by decide +kernel
theorem dL_areTold_36 : decode cL_areTold 36 = .ok (.invokevirtual 69, 3) := by decide +kernel
theorem dL_areTold_39 : decode cL_areTold 39 = .ok (.aload 4, 2) := by decide +kernel
theorem dL_areTold_41 : decode cL_areTold 41 = .ok (.iconst 0, 1) := by decide +kernel
theorem dL_areTold_42 : decode cL_areTold 42 = .ok (.laload, 1) := by decide +kernel
theorem dL_areTold_43 : decode cL_areTold 43 = .ok (.invokestatic 65, 3) := by decide +kernel
theorem dL_areTold_46 : decode cL_areTold 46 = .ok (.if_icmp .ne 85, 3) := by decide +kernel
theorem dL_areTold_49 : decode cL_areTold 49 = .ok (.aload_n 0, 1) := by decide +kernel
theorem dL_areTold_50 : decode cL_areTold 50 = .ok (.bipush 6, 2) := by decide +kernel
theorem dL_areTold_52 : decode cL_areTold 52 = .ok (.invokevirtual 69, 3) := by decide +kernel
theorem dL_areTold_55 : decode cL_areTold 55 = .ok (.aload 4, 2) := by decide +kernel
theorem dL_areTold_57 : decode cL_areTold 57 = .ok (.iconst 1, 1) := by decide +kernel
theorem dL_areTold_58 : decode cL_areTold 58 = .ok (.laload, 1) := by decide +kernel
theorem dL_areTold_59 : decode cL_areTold 59 = .ok (.invokestatic 65, 3) := by decide +kernel
theorem dL_areTold_62 : decode cL_areTold 62 = .ok (.if_icmp .ne 69, 3) := by decide +kernel
theorem dL_areTold_65 : decode cL_areTold 65 = .ok (.aload_n 0, 1) := by decide +kernel
theorem dL_areTold_66 : decode cL_areTold 66 = .ok (.bipush 7, 2) := by decide +kernel
theorem dL_areTold_68 : decode cL_areTold 68 = .ok (.invokevirtual 69, 3) := by decide +kernel
theorem dL_areTold_71 : decode cL_areTold 71 = .ok (.aload_n 3, 1) := by decide +kernel
theorem dL_areTold_72 : decode cL_areTold 72 = .ok (.iconst 3, 1) := by decide +kernel
theorem dL_areTold_73 : decode cL_areTold 73 = .ok (.iaload, 1) := by decide +kernel
theorem dL_areTold_74 : decode cL_areTold 74 = .ok (.if_icmp .ne 57, 3) := by decide +kernel
theorem dL_areTold_77 : decode cL_areTold 77 = .ok (.aload_n 0, 1) := by decide +kernel
theorem dL_areTold_78 : decode cL_areTold 78 = .ok (.bipush 8, 2) := by decide +kernel
theorem dL_areTold_80 : decode cL_areTold 80 = .ok (.invokevirtual 69, 3) := by decide +kernel
theorem dL_areTold_83 : decode cL_areTold 83 = .ok (.aload_n 3, 1) := by decide +kernel
theorem dL_areTold_84 : decode cL_areTold 84 = .ok (.iconst 4, 1) := by decide +kernel
theorem dL_areTold_85 : decode cL_areTold 85 = .ok (.iaload, 1) := by decide +kernel
theorem dL_areTold_86 : decode cL_areTold 86 = .ok (.if_icmp .ne 45, 3) := by decide +kernel
theorem dL_areTold_89 : decode cL_areTold 89 = .ok (.aload_n 0, 1) := by decide +kernel
theorem dL_areTold_90 : decode cL_areTold 90 = .ok (.bipush 9, 2) := by decide +kernel
theorem dL_areTold_92 : decode cL_areTold 92 = .ok (.invokevirtual 69, 3) := by decide +kernel
theorem dL_areTold_95 : decode cL_areTold 95 = .ok (.aload_n 3, 1) := by decide +kernel
theorem dL_areTold_96 : decode cL_areTold 96 = .ok (.iconst 5, 1) := by decide +kernel
theorem dL_areTold_97 : decode cL_areTold 97 = .ok (.iaload, 1) := by decide +kernel
theorem dL_areTold_98 : decode cL_areTold 98 = .ok (.if_icmp .ne 33, 3) := by decide +kernel
theorem dL_areTold_101 : decode cL_areTold 101 = .ok (.aload_n 0, 1) := by decide +kernel
theorem dL_areTold_102 : decode cL_areTold 102 = .ok (.bipush 10, 2) := by decide +kernel
theorem dL_areTold_104 : decode cL_areTold 104 = .ok (.invokevirtual 69, 3) := by decide +kernel
theorem dL_areTold_107 : decode cL_areTold 107 = .ok (.aload_n 3, 1) := by decide +kernel
theorem dL_areTold_108 : decode cL_areTold 108 = .ok (.bipush 6, 2) := by decide +kernel
theorem dL_areTold_110 : decode cL_areTold 110 = .ok (.iaload, 1) := by decide +kernel
theorem dL_areTold_111 : decode cL_areTold 111 = .ok (.if_icmp .ne 20, 3) := by decide +kernel
theorem dL_areTold_114 : decode cL_areTold 114 = .ok (.aload_n 0, 1) := by decide +kernel
theorem dL_areTold_115 : decode cL_areTold 115 = .ok (.bipush 11, 2) := by decide +kernel
theorem dL_areTold_117 : decode cL_areTold 117 = .ok (.invokevirtual 69, 3) := by decide +kernel
theorem dL_areTold_120 : decode cL_areTold 120 = .ok (.aload_n 3, 1) := by decide +kernel
theorem dL_areTold_121 : decode cL_areTold 121 = .ok (.bipush 7, 2) := by decide +kernel
theorem dL_areTold_123 : decode cL_areTold 123 = .ok (.iaload, 1) := by decide +kernel
theorem dL_areTold_124 : decode cL_areTold 124 = .ok (.if_icmp .ne 7, 3) := by decide +kernel
theorem dL_areTold_127 : decode cL_areTold 127 = .ok (.iconst 1, 1) := by decide +kernel
theorem dL_areTold_128 : decode cL_areTold 128 = .ok (.goto 4, 3) := by decide +kernel
theorem dL_areTold_131 : decode cL_areTold 131 = .ok (.iconst 0, 1) := by decide +kernel
theorem dL_areTold_132 : decode cL_areTold 132 = .ok (.istore 6, 2) := by decide +kernel
theorem dL_areTold_134 : decode cL_areTold 134 = .ok (.iconst 0, 1) := by decide +kernel
theorem dL_areTold_135 : decode cL_areTold 135 = .ok (.istore 7, 2) := by decide +kernel
theorem dL_areTold_137 : decode cL_areTold 137 = .ok (.iload 7, 2) := by decide +kernel
theorem dL_areTold_139 : decode cL_areTold 139 = .ok (.iconst 5, 1) := by decide +kernel
theorem dL_areTold_140 : decode cL_areTold 140 = .ok (.if_icmp .ge 219, 3) := by decide +kernel
theorem dL_areTold_143 : decode cL_areTold 143 = .ok (.iconst 0, 1) := by decide +kernel
theorem dL_areTold_144 : decode cL_areTold 144 = .ok (.istore 8, 2) := by decide +kernel
theorem dL_areTold_146 : decode cL_areTold 146 = .ok (.iconst 0, 1) := by decide +kernel
theorem dL_areTold_147 : decode cL_areTold 147 = .ok (.istore 9, 2) := by decide +kernel
theorem dL_areTold_149 : decode cL_areTold 149 = .ok (.iload 9, 2) := by decide +kernel
theorem dL_areTold_151 : decode cL_areTold 151 = .ok (.aload_n 3, 1) := by decide +kernel
theorem dL_areTold_152 : decode cL_areTold 152 = .ok (.iconst 0, 1) := by decide +kernel
theorem dL_areTold_153 : decode cL_areTold 153 = .ok (.iaload, 1) := by decide +kernel
theorem dL_areTold_154 : decode cL_areTold 154 = .ok (.if_icmp .ge 26, 3) := by decide +kernel
theorem dL_areTold_157 : decode cL_areTold 157 = .ok (.iload 8, 2) := by decide +kernel
theorem dL_areTold_159 : decode cL_areTold 159 = .ok (.aload_n 2, 1) := by decide +kernel
theorem dL_areTold_160 : decode cL_areTold 160 = .ok (.bipush 14, 2) := by decide +kernel
theorem dL_areTold_162 : decode cL_areTold 162 = .ok (.iload 9, 2) := by decide +kernel
theorem dL_areTold_164 : decode cL_areTold 164 = .ok (.imul, 1) := by decide +kernel
theorem dL_areTold_165 : decode cL_areTold 165 = .ok (.iaload, 1) := by decide +kernel
theorem dL_areTold_166 : decode cL_areTold 166 = .ok (.iload 7, 2) := by decide +kernel
theorem dL_areTold_168 : decode cL_areTold 168 = .ok (.ishr, 1) := by decide +kernel
theorem dL_areTold_169 : decode cL_areTold 169 = .ok (.iconst 1, 1) := by decide +kernel
theorem dL_areTold_170 : decode cL_areTold 170 = .ok (.iand, 1) := by decide +kernel
theorem dL_areTold_171 : decode cL_areTold 171 = .ok (.iadd, 1) := by decide +kernel
theorem dL_areTold_172 : decode cL_areTold 172 = .ok (.istore 8, 2) := by decide +kernel
theorem dL_areTold_174 : decode cL_areTold 174 = .ok (.iinc 9 1, 3) := by decide +kernel
theorem dL_areTold_177 : decode cL_areTold 177 = .ok (.goto (-28), 3) := by decide +kernel
theorem dL_areTold_180 : decode cL_areTold 180 = .ok (.aload_n 1, 1) := by decide +kernel
theorem dL_areTold_181 : decode cL_areTold 181 = .ok (.iload 7, 2) := by decide +kernel
theorem dL_areTold_183 : decode cL_areTold 183 = .ok (.iaload, 1) := by decide +kernel
theorem dL_areTold_184 : decode cL_areTold 184 = .ok (.aload_n 1, 1) := by decide +kernel
theorem dL_areTold_185 : decode cL_areTold 185 = .ok (.iconst 5, 1) := by decide +kernel
theorem dL_areTold_186 : decode cL_areTold 186 = .ok (.iload 7, 2) := by decide +kernel
theorem dL_areTold_188 : decode cL_areTold 188 = .ok (.iadd, 1) := by decide +kernel
theorem dL_areTold_189 : decode cL_areTold 189 = .ok (.iaload, 1) := by decide +kernel
theorem dL_areTold_190 : decode cL_areTold 190 = .ok (.if_icmp .le 10, 3) := by decide +kernel
theorem dL_areTold_193 : decode cL_areTold 193 = .ok (.aload_n 1, 1) := by decide +kernel
theorem dL_areTold_194 : decode cL_areTold 194 = .ok (.iload 7, 2) := by decide +kernel
theorem dL_areTold_196 : decode cL_areTold 196 = .ok (.iaload, 1) := by decide +kernel
theorem dL_areTold_197 : decode cL_areTold 197 = .ok (.goto 9, 3) := by decide +kernel
theorem dL_areTold_200 : decode cL_areTold 200 = .ok (.aload_n 1, 1) := by decide +kernel
theorem dL_areTold_201 : decode cL_areTold 201 = .ok (.iconst 5, 1) := by decide +kernel
theorem dL_areTold_202 : decode cL_areTold 202 = .ok (.iload 7, 2) := by decide +kernel
theorem dL_areTold_204 : decode cL_areTold 204 = .ok (.iadd, 1) := by decide +kernel
theorem dL_areTold_205 : decode cL_areTold 205 = .ok (.iaload, 1) := by decide +kernel
theorem dL_areTold_206 : decode cL_areTold 206 = .ok (.istore 9, 2) := by decide +kernel
theorem dL_areTold_208 : decode cL_areTold 208 = .ok (.iload 6, 2) := by decide +kernel
theorem dL_areTold_210 : decode cL_areTold 210 = .ok (.ifCond .eq 79, 3) := by decide +kernel
theorem dL_areTold_213 : decode cL_areTold 213 = .ok (.aload_n 0, 1) := by decide +kernel
theorem dL_areTold_214 : decode cL_areTold 214 = .ok (.iload 7, 2) := by decide +kernel
theorem dL_areTold_216 : decode cL_areTold 216 = .ok (.iconst 0, 1) := by decide +kernel
theorem dL_areTold_217 : decode cL_areTold 217 = .ok (.invokevirtual 76, 3) := by decide +kernel
theorem dL_areTold_220 : decode cL_areTold 220 = .ok (.aload_n 1, 1) := by decide +kernel
theorem dL_areTold_221 : decode cL_areTold 221 = .ok (.iload 7, 2) := by decide +kernel
theorem dL_areTold_223 : decode cL_areTold 223 = .ok (.iaload, 1) := by decide +kernel
theorem dL_areTold_224 : decode cL_areTold 224 = .ok (.if_icmp .ne 65, 3) := by decide +kernel
theorem dL_areTold_227 : decode cL_areTold 227 = .ok (.aload_n 0, 1) := by decide +kernel
theorem dL_areTold_228 : decode cL_areTold 228 = .ok (.iload 7, 2) := by decide +kernel
theorem dL_areTold_230 : decode cL_areTold 230 = .ok (.iconst 1, 1) := by decide +kernel
theorem dL_areTold_231 : decode cL_areTold 231 = .ok (.invokevirtual 76, 3) := by decide +kernel
theorem dL_areTold_234 : decode cL_areTold 234 = .ok (.aload_n 1, 1) := by decide +kernel
theorem dL_areTold_235 : decode cL_areTold 235 = .ok (.iconst 5, 1) := by decide +kernel
theorem dL_areTold_236 : decode cL_areTold 236 = .ok (.iload 7, 2) := by decide +kernel
theorem dL_areTold_238 : decode cL_areTold 238 = .ok (.iadd, 1) := by decide +kernel
theorem dL_areTold_239 : decode cL_areTold 239 = .ok (.iaload, 1) := by decide +kernel
theorem dL_areTold_240 : decode cL_areTold 240 = .ok (.if_icmp .ne 49, 3) := by decide +kernel
theorem dL_areTold_243 : decode cL_areTold 243 = .ok (.aload_n 0, 1) := by decide +kernel
theorem dL_areTold_244 : decode cL_areTold 244 = .ok (.iload 7, 2) := by decide +kernel
theorem dL_areTold_246 : decode cL_areTold 246 = .ok (.iconst 2, 1) := by decide +kernel
theorem dL_areTold_247 : decode cL_areTold 247 = .ok (.invokevirtual 76, 3) := by decide +kernel
theorem dL_areTold_250 : decode cL_areTold 250 = .ok (.bipush 100, 2) := by decide +kernel
theorem dL_areTold_252 : decode cL_areTold 252 = .ok (.iload 9, 2) := by decide +kernel
theorem dL_areTold_254 : decode cL_areTold 254 = .ok (.imul, 1) := by decide +kernel
theorem dL_areTold_255 : decode cL_areTold 255 = .ok (.aload_n 1, 1) := by decide +kernel
theorem dL_areTold_256 : decode cL_areTold 256 = .ok (.iload 7, 2) := by decide +kernel
theorem dL_areTold_258 : decode cL_areTold 258 = .ok (.iaload, 1) := by decide +kernel
theorem dL_areTold_259 : decode cL_areTold 259 = .ok (.aload_n 1, 1) := by decide +kernel
theorem dL_areTold_260 : decode cL_areTold 260 = .ok (.iconst 5, 1) := by decide +kernel
theorem dL_areTold_261 : decode cL_areTold 261 = .ok (.iload 7, 2) := by decide +kernel
theorem dL_areTold_263 : decode cL_areTold 263 = .ok (.iadd, 1) := by decide +kernel
theorem dL_areTold_264 : decode cL_areTold 264 = .ok (.iaload, 1) := by decide +kernel
theorem dL_areTold_265 : decode cL_areTold 265 = .ok (.iadd, 1) := by decide +kernel
theorem dL_areTold_266 : decode cL_areTold 266 = .ok (.iload 9, 2) := by decide +kernel
theorem dL_areTold_268 : decode cL_areTold 268 = .ok (.isub, 1) := by decide +kernel
theorem dL_areTold_269 : decode cL_areTold 269 = .ok (.idiv, 1) := by decide +kernel
theorem dL_areTold_270 : decode cL_areTold 270 = .ok (.if_icmp .ne 19, 3) := by decide +kernel
theorem dL_areTold_273 : decode cL_areTold 273 = .ok (.aload_n 0, 1) := by decide +kernel
theorem dL_areTold_274 : decode cL_areTold 274 = .ok (.iload 7, 2) := by decide +kernel
theorem dL_areTold_276 : decode cL_areTold 276 = .ok (.iconst 3, 1) := by decide +kernel
theorem dL_areTold_277 : decode cL_areTold 277 = .ok (.invokevirtual 76, 3) := by decide +kernel
theorem dL_areTold_280 : decode cL_areTold 280 = .ok (.iload 8, 2) := by decide +kernel
theorem dL_areTold_282 : decode cL_areTold 282 = .ok (.if_icmp .ne 7, 3) := by decide +kernel
theorem dL_areTold_285 : decode cL_areTold 285 = .ok (.iconst 1, 1) := by decide +kernel
theorem dL_areTold_286 : decode cL_areTold 286 = .ok (.goto 4, 3) := by decide +kernel
theorem dL_areTold_289 : decode cL_areTold 289 = .ok (.iconst 0, 1) := by decide +kernel
theorem dL_areTold_290 : decode cL_areTold 290 = .ok (.istore 6, 2) := by decide +kernel
theorem dL_areTold_292 : decode cL_areTold 292 = .ok (.iconst 0, 1) := by decide +kernel
theorem dL_areTold_293 : decode cL_areTold 293 = .ok (.istore 10, 2) := by decide +kernel
theorem dL_areTold_295 : decode cL_areTold 295 = .ok (.iload 10, 2) := by decide +kernel
theorem dL_areTold_297 : decode cL_areTold 297 = .ok (.iconst 5, 1) := by decide +kernel
theorem dL_areTold_298 : decode cL_areTold 298 = .ok (.if_icmp .ge 55, 3) := by decide +kernel
theorem dL_areTold_301 : decode cL_areTold 301 = .ok (.iload 6, 2) := by decide +kernel
theorem dL_areTold_303 : decode cL_areTold 303 = .ok (.ifCond .eq 41, 3) := by decide +kernel
theorem dL_areTold_306 : decode cL_areTold 306 = .ok (.aload_n 0, 1) := by decide +kernel
theorem dL_areTold_307 : decode cL_areTold 307 = .ok (.iload 7, 2) := by decide +kernel
theorem dL_areTold_309 : decode cL_areTold 309 = .ok (.iload 10, 2) := by decide +kernel
theorem dL_areTold_311 : decode cL_areTold 311 = .ok (.invokevirtual 79, 3) := by decide +kernel
theorem dL_areTold_314 : decode cL_areTold 314 = .ok (.iload 10, 2) := by decide +kernel
theorem dL_areTold_316 : decode cL_areTold 316 = .ok (.iload 7, 2) := by decide +kernel
theorem dL_areTold_318 : decode cL_areTold 318 = .ok (.if_icmp .ne 7, 3) := by decide +kernel
theorem dL_areTold_321 : decode cL_areTold 321 = .ok (.iconst (-1), 1) := by decide +kernel
theorem dL_areTold_322 : decode cL_areTold 322 = .ok (.goto 15, 3) := by decide +kernel
theorem dL_areTold_325 : decode cL_areTold 325 = .ok (.aload_n 1, 1) := by decide +kernel
theorem dL_areTold_326 : decode cL_areTold 326 = .ok (.bipush 10, 2) := by decide +kernel
theorem dL_areTold_328 : decode cL_areTold 328 = .ok (.iconst 5, 1) := by decide +kernel
theorem dL_areTold_329 : decode cL_areTold 329 = .ok (.iload 7, 2) := by decide +kernel
theorem dL_areTold_331 : decode cL_areTold 331 = .ok (.imul, 1) := by decide +kernel
theorem dL_areTold_332 : decode cL_areTold 332 = .ok (.iadd, 1) := by decide +kernel
theorem dL_areTold_333 : decode cL_areTold 333 = .ok (.iload 10, 2) := by decide +kernel
theorem dL_areTold_335 : decode cL_areTold 335 = .ok (.iadd, 1) := by decide +kernel
theorem dL_areTold_336 : decode cL_areTold 336 = .ok (.iaload, 1) := by decide +kernel
theorem dL_areTold_337 : decode cL_areTold 337 = .ok (.if_icmp .ne 7, 3) := by decide +kernel
theorem dL_areTold_340 : decode cL_areTold 340 = .ok (.iconst 1, 1) := by decide +kernel
theorem dL_areTold_341 : decode cL_areTold 341 = .ok (.goto 4, 3) := by decide +kernel
theorem dL_areTold_344 : decode cL_areTold 344 = .ok (.iconst 0, 1) := by decide +kernel
theorem dL_areTold_345 : decode cL_areTold 345 = .ok (.istore 6, 2) := by decide +kernel
theorem dL_areTold_347 : decode cL_areTold 347 = .ok (.iinc 10 1, 3) := by decide +kernel
theorem dL_areTold_350 : decode cL_areTold 350 = .ok (.goto (-55), 3) := by decide +kernel
theorem dL_areTold_353 : decode cL_areTold 353 = .ok (.iinc 7 1, 3) := by decide +kernel
theorem dL_areTold_356 : decode cL_areTold 356 = .ok (.goto (-219), 3) := by decide +kernel
theorem dL_areTold_359 : decode cL_areTold 359 = .ok (.iload 6, 2) := by decide +kernel
theorem dL_areTold_361 : decode cL_areTold 361 = .ok (.ifCond .eq 29, 3) := by decide +kernel
theorem dL_areTold_364 : decode cL_areTold 364 = .ok (.aload_n 2, 1) := by decide +kernel
theorem dL_areTold_365 : decode cL_areTold 365 = .ok (.aload_n 3, 1) := by decide +kernel
theorem dL_areTold_366 : decode cL_areTold 366 = .ok (.iload 5, 2) := by decide +kernel
theorem dL_areTold_368 : decode cL_areTold 368 = .ok (.invokestatic 35, 3) := by decide +kernel
theorem dL_areTold_371 : decode cL_areTold 371 = .ok (.ifCond .ge 15, 3) := by decide +kernel
theorem dL_areTold_374 : decode cL_areTold 374 = .ok (.aload_n 0, 1) := by decide +kernel
theorem dL_areTold_375 : decode cL_areTold 375 = .ok (.iload 5, 2) := by decide +kernel
theorem dL_areTold_377 : decode cL_areTold 377 = .ok (.iconst 0, 1) := by decide +kernel
theorem dL_areTold_378 : decode cL_areTold 378 = .ok (.invokevirtual 59, 3) := by decide +kernel
theorem dL_areTold_381 : decode cL_areTold 381 = .ok (.bipush (-4), 2) := by decide +kernel
theorem dL_areTold_383 : decode cL_areTold 383 = .ok (.if_icmp .ne 7, 3) := by decide +kernel
theorem dL_areTold_386 : decode cL_areTold 386 = .ok (.iconst 1, 1) := by decide +kernel
theorem dL_areTold_387 : decode cL_areTold 387 = .ok (.goto 4, 3) := by decide +kernel
theorem dL_areTold_390 : decode cL_areTold 390 = .ok (.iconst 0, 1) := by decide +kernel
theorem dL_areTold_391 : decode cL_areTold 391 = .ok (.ireturn, 1) := by decide +kernel
theorem dL_areBest_0 : decode cL_areBest 0 = .ok (.iconst 5, 1) := by decide +kernel
theorem dL_areBest_1 : decode cL_areBest 1 = .ok (.newarray .int, 2) := by decide +kernel
theorem dL_areBest_3 : decode cL_areBest 3 = .ok (.astore 4, 2) := by decide +kernel
theorem dL_areBest_5 : decode cL_areBest 5 = .ok (.aload_n 0, 1) := by decide +kernel
theorem dL_areBest_6 : decode cL_areBest 6 = .ok (.iload_n 2, 1) := by decide +kernel
theorem dL_areBest_7 : decode cL_areBest 7 = .ok (.iconst 1, 1) := by decide +kernel
theorem dL_areBest_8 : decode cL_areBest 8 = .ok (.iconst (-1), 1) := by decide +kernel
theorem dL_areBest_9 : decode cL_areBest 9 = .ok (.invokevirtual 82, 3) := by decide +kernel
theorem dL_areBest_12 : decode cL_areBest 12 = .ok (.iconst (-1), 1) := by decide +kernel
theorem dL_areBest_13 : decode cL_areBest 13 = .ok (.if_icmp .ne 7, 3) := by decide +kernel
theorem dL_areBest_16 : decode cL_areBest 16 = .ok (.iconst 1, 1) := by decide +kernel
theorem dL_areBest_17 : decode cL_areBest 17 = .ok (.goto 4, 3) := by decide +kernel
theorem dL_areBest_20 : decode cL_areBest 20 = .ok (.iconst 0, 1) := by decide +kernel
theorem dL_areBest_21 : decode cL_areBest 21 = .ok (.istore 5, 2) := by decide +kernel
theorem dL_areBest_23 : decode cL_areBest 23 = .ok (.iconst 0, 1) := by decide +kernel
theorem dL_areBest_24 : decode cL_areBest 24 = .ok (.istore 6, 2) := by decide +kernel
theorem dL_areBest_26 : decode cL_areBest 26 = .ok (.iload 6, 2) := by decide +kernel
theorem dL_areBest_28 : decode cL_areBest 28 = .ok (.bipush 6, 2) := by decide +kernel
theorem dL_areBest_30 : decode cL_areBest 30 = .ok (.if_icmp .ge 149, 3) := by decide +kernel
theorem dL_areBest_33 : decode cL_areBest 33 = .ok (.iload 5, 2) := by decide +kernel
theorem dL_areBest_35 : decode cL_areBest 35 = .ok (.ifCond .eq 144, 3) := by decide +kernel
theorem dL_areBest_38 : decode cL_areBest 38 = .ok (.aload_n 1, 1) := by decide +kernel
theorem dL_areBest_39 : decode cL_areBest 39 = .ok (.iload_n 2, 1) := by decide +kernel
theorem dL_areBest_40 : decode cL_areBest 40 = .ok (.iload 6, 2) := by decide +kernel
theorem dL_areBest_42 : decode cL_areBest 42 = .ok (.aload_n 3, 1) := by decide +kernel
theorem dL_areBest_43 : decode cL_areBest 43 = .ok (.invokestatic 19, 3) := by decide +kernel
theorem dL_areBest_46 : decode cL_areBest 46 = .ok (.lstore 7, 2) := by decide +kernel
theorem dL_areBest_48 : decode cL_areBest 48 = .ok (.iload 6, 2) := by decide +kernel
theorem dL_areBest_50 : decode cL_areBest 50 = .ok (.ifCond .ne 7, 3) := by decide +kernel
theorem dL_areBest_53 : decode cL_areBest 53 = .ok (.iconst 1, 1) := by decide +kernel
theorem dL_areBest_54 : decode cL_areBest 54 = .ok (.goto 4, 3) := by decide +kernel
theorem dL_areBest_57 : decode cL_areBest 57 = .ok (.iconst 0, 1) := by decide +kernel
theorem dL_areBest_58 : decode cL_areBest 58 = .ok (.istore 9, 2) := by decide +kernel
theorem dL_areBest_60 : decode cL_areBest 60 = .ok (.aload_n 0, 1) := by decide +kernel
theorem dL_areBest_61 : decode cL_areBest 61 = .ok (.iload_n 2, 1) := by decide +kernel
theorem dL_areBest_62 : decode cL_areBest 62 = .ok (.iload 9, 2) := by decide +kernel
theorem dL_areBest_64 : decode cL_areBest 64 = .ok (.invokevirtual 85, 3) := by decide +kernel
theorem dL_areBest_67 : decode cL_areBest 67 = .ok (.aload_n 1, 1) := by decide +kernel
theorem dL_areBest_68 : decode cL_areBest 68 = .ok (.iload_n 2, 1) := by decide +kernel
theorem dL_areBest_69 : decode cL_areBest 69 = .ok (.iload 6, 2) := by decide +kernel
theorem dL_areBest_71 : decode cL_areBest 71 = .ok (.invokestatic 13, 3) := by decide +kernel
theorem dL_areBest_74 : decode cL_areBest 74 = .ok (.invokestatic 65, 3) := by decide +kernel
theorem dL_areBest_77 : decode cL_areBest 77 = .ok (.if_icmp .ne 39, 3) := by decide +kernel
theorem dL_areBest_80 : decode cL_areBest 80 = .ok (.aload_n 0, 1) := by decide +kernel
theorem dL_areBest_81 : decode cL_areBest 81 = .ok (.iload_n 2, 1) := by decide +kernel
theorem dL_areBest_82 : decode cL_areBest 82 = .ok (.iload 9, 2) := by decide +kernel
theorem dL_areBest_84 : decode cL_areBest 84 = .ok (.iconst 0, 1) := by decide +kernel
theorem dL_areBest_85 : decode cL_areBest 85 = .ok (.invokevirtual 88, 3) := by decide +kernel
theorem dL_areBest_88 : decode cL_areBest 88 = .ok (.lload 7, 2) := by decide +kernel
theorem dL_areBest_90 : decode cL_areBest 90 = .ok (.invokestatic 65, 3) := by decide +kernel
theorem dL_areBest_93 : decode cL_areBest 93 = .ok (.if_icmp .ne 23, 3) := by decide +kernel
theorem dL_areBest_96 : decode cL_areBest 96 = .ok (.aload_n 0, 1) := by decide +kernel
theorem dL_areBest_97 : decode cL_areBest 97 = .ok (.iload_n 2, 1) := by decide +kernel
theorem dL_areBest_98 : decode cL_areBest 98 = .ok (.iload 9, 2) := by decide +kernel
theorem dL_areBest_100 : decode cL_areBest 100 = .ok (.iconst 1, 1) := by decide +kernel
theorem dL_areBest_101 : decode cL_areBest 101 = .ok (.invokevirtual 88, 3) := by decide +kernel
theorem dL_areBest_104 : decode cL_areBest 104 = .ok (.lload 7, 2) := by decide +kernel
theorem dL_areBest_106 : decode cL_areBest 106 = .ok (.invokestatic 65, 3) := by decide +kernel
theorem dL_areBest_109 : decode cL_areBest 109 = .ok (.if_icmp .ne 7, 3) := by decide +kernel
theorem dL_areBest_112 : decode cL_areBest 112 = .ok (.iconst 1, 1) := by decide +kernel
theorem dL_areBest_113 : decode cL_areBest 113 = .ok (.goto 4, 3) := by decide +kernel
theorem dL_areBest_116 : decode cL_areBest 116 = .ok (.iconst 0, 1) := by decide +kernel
theorem dL_areBest_117 : decode cL_areBest 117 = .ok (.istore 5, 2) := by decide +kernel
theorem dL_areBest_119 : decode cL_areBest 119 = .ok (.aload_n 1, 1) := by decide +kernel
theorem dL_areBest_120 : decode cL_areBest 120 = .ok (.iload_n 2, 1) := by decide +kernel
theorem dL_areBest_121 : decode cL_areBest 121 = .ok (.iload 6, 2) := by decide +kernel
theorem dL_areBest_123 : decode cL_areBest 123 = .ok (.aload_n 3, 1) := by decide +kernel
theorem dL_areBest_124 : decode cL_areBest 124 = .ok (.aload 4, 2) := by decide +kernel
theorem dL_areBest_126 : decode cL_areBest 126 = .ok (.invokestatic 39, 3) := by decide +kernel
theorem dL_areBest_129 : decode cL_areBest 129 = .ok (.iconst 0, 1) := by decide +kernel
theorem dL_areBest_130 : decode cL_areBest 130 = .ok (.istore 10, 2) := by decide +kernel
theorem dL_areBest_132 : decode cL_areBest 132 = .ok (.iload 10, 2) := by decide +kernel
theorem dL_areBest_134 : decode cL_areBest 134 = .ok (.iconst 5, 1) := by decide +kernel
theorem dL_areBest_135 : decode cL_areBest 135 = .ok (.if_icmp .ge 38, 3) := by decide +kernel
theorem dL_areBest_138 : decode cL_areBest 138 = .ok (.iload 5, 2) := by decide +kernel
theorem dL_areBest_140 : decode cL_areBest 140 = .ok (.ifCond .eq 24, 3) := by decide +kernel
theorem dL_areBest_143 : decode cL_areBest 143 = .ok (.aload_n 0, 1) := by decide +kernel
theorem dL_areBest_144 : decode cL_areBest 144 = .ok (.iload_n 2, 1) := by decide +kernel
theorem dL_areBest_145 : decode cL_areBest 145 = .ok (.iload 9, 2) := by decide +kernel
theorem dL_areBest_147 : decode cL_areBest 147 = .ok (.iload 10, 2) := by decide +kernel
theorem dL_areBest_149 : decode cL_areBest 149 = .ok (.invokevirtual 82, 3) := by decide +kernel
theorem dL_areBest_152 : decode cL_areBest 152 = .ok (.aload 4, 2) := by decide +kernel
theorem dL_areBest_154 : decode cL_areBest 154 = .ok (.iload 10, 2) := by decide +kernel
theorem dL_areBest_156 : decode cL_areBest 156 = .ok (.iaload, 1) := by decide +kernel
theorem dL_areBest_157 : decode cL_areBest 157 = .ok (.if_icmp .ne 7, 3) := by decide +kernel
theorem dL_areBest_160 : decode cL_areBest 160 = .ok (.iconst 1, 1) := by decide +kernel
theorem dL_areBest_161 : decode cL_areBest 161 = .ok (.goto 4, 3) := by decide +kernel
theorem dL_areBest_164 : decode cL_areBest 164 = .ok (.iconst 0, 1) := by decide +kernel
theorem dL_areBest_165 : decode cL_areBest 165 = .ok (.istore 5, 2) := by decide +kernel
theorem dL_areBest_167 : decode cL_areBest 167 = .ok (.iinc 10 1, 3) := by decide +kernel
theorem dL_areBest_170 : decode cL_areBest 170 = .ok (.goto (-38), 3) := by decide +kernel
theorem dL_areBest_173 : decode cL_areBest 173 = .ok (.iinc 6 5, 3) := by decide +kernel
theorem dL_areBest_176 : decode cL_areBest 176 = .ok (.goto (-150), 3) := by decide +kernel
theorem dL_areBest_179 : decode cL_areBest 179 = .ok (.iload 5, 2) := by decide +kernel
theorem dL_areBest_181 : decode cL_areBest 181 = .ok (.ireturn, 1) := by decide +kernel
theorem dL_isPart_0 : decode cL_isPart 0 = .ok (.iload 4, 2) := by decide +kernel
theorem dL_isPart_2 : decode cL_isPart 2 = .ok (.iload 5, 2) := by decide +kernel
theorem dL_isPart_4 : decode cL_isPart 4 = .ok (.if_icmp .ne 23, 3) := by decide +kernel
theorem dL_isPart_7 : decode cL_isPart 7 = .ok (.aload_n 0, 1) := by decide +kernel
theorem dL_isPart_8 : decode cL_isPart 8 = .ok (.iload 4, 2) := by decide +kernel
theorem dL_isPart_10 : decode cL_isPart 10 = .ok (.iload 5, 2) := by decide +kernel
theorem dL_isPart_12 : decode cL_isPart 12 = .ok (.iload 6, 2) := by decide +kernel
theorem dL_isPart_14 : decode cL_isPart 14 = .ok (.invokevirtual 90, 3) := by decide +kernel
theorem dL_isPart_17 : decode cL_isPart 17 = .ok (.iconst (-1), 1) := by decide +kernel
theorem dL_isPart_18 : decode cL_isPart 18 = .ok (.if_icmp .ne 7, 3) := by decide +kernel
theorem dL_isPart_21 : decode cL_isPart 21 = .ok (.iconst 1, 1) := by decide +kernel
theorem dL_isPart_22 : decode cL_isPart 22 = .ok (.goto 4, 3) := by decide +kernel
theorem dL_isPart_25 : decode cL_isPart 25 = .ok (.iconst 0, 1) := by decide +kernel
theorem dL_isPart_26 : decode cL_isPart 26 = .ok (.ireturn, 1) := by decide +kernel
theorem dL_isPart_27 : decode cL_isPart 27 = .ok (.aload_n 1, 1) := by decide +kernel
theorem dL_isPart_28 : decode cL_isPart 28 = .ok (.bipush 10, 2) := by decide +kernel
theorem dL_isPart_30 : decode cL_isPart 30 = .ok (.iconst 5, 1) := by decide +kernel
theorem dL_isPart_31 : decode cL_isPart 31 = .ok (.iload 4, 2) := by decide +kernel
theorem dL_isPart_33 : decode cL_isPart 33 = .ok (.imul, 1) := by decide +kernel
theorem dL_isPart_34 : decode cL_isPart 34 = .ok (.iadd, 1) := by decide +kernel
theorem dL_isPart_35 : decode cL_isPart 35 = .ok (.iload 5, 2) := by decide +kernel
theorem dL_isPart_37 : decode cL_isPart 37 = .ok (.iadd, 1) := by decide +kernel
theorem dL_isPart_38 : decode cL_isPart 38 = .ok (.iload 6, 2) := by decide +kernel
theorem dL_isPart_40 : decode cL_isPart 40 = .ok (.iastore, 1) := by decide +kernel
theorem dL_isPart_41 : decode cL_isPart 41 = .ok (.aload_n 1, 1) := by decide +kernel
theorem dL_isPart_42 : decode cL_isPart 42 = .ok (.bipush 10, 2) := by decide +kernel
theorem dL_isPart_44 : decode cL_isPart 44 = .ok (.iconst 5, 1) := by decide +kernel
theorem dL_isPart_45 : decode cL_isPart 45 = .ok (.iload 5, 2) := by decide +kernel
theorem dL_isPart_47 : decode cL_isPart 47 = .ok (.imul, 1) := by decide +kernel
theorem dL_isPart_48 : decode cL_isPart 48 = .ok (.iadd, 1) := by decide +kernel
theorem dL_isPart_49 : decode cL_isPart 49 = .ok (.iload 4, 2) := by decide +kernel
theorem dL_isPart_51 : decode cL_isPart 51 = .ok (.iadd, 1) := by decide +kernel
theorem dL_isPart_52 : decode cL_isPart 52 = .ok (.iload 6, 2) := by decide +kernel
theorem dL_isPart_54 : decode cL_isPart 54 = .ok (.iastore, 1) := by decide +kernel
theorem dL_isPart_55 : decode cL_isPart 55 = .ok (.iconst 0, 1) := by decide +kernel
theorem dL_isPart_56 : decode cL_isPart 56 = .ok (.istore 7, 2) := by decide +kernel
theorem dL_isPart_58 : decode cL_isPart 58 = .ok (.aload_n 3, 1) := by decide +kernel
theorem dL_isPart_59 : decode cL_isPart 59 = .ok (.iconst 0, 1) := by decide +kernel
theorem dL_isPart_60 : decode cL_isPart 60 = .ok (.iaload, 1) := by decide +kernel
theorem dL_isPart_61 : decode cL_isPart 61 = .ok (.iconst 1, 1) := by decide +kernel
theorem dL_isPart_62 : decode cL_isPart 62 = .ok (.isub, 1) := by decide +kernel
theorem dL_isPart_63 : decode cL_isPart 63 = .ok (.istore 8, 2) := by decide +kernel
theorem dL_isPart_65 : decode cL_isPart 65 = .ok (.iload 8, 2) := by decide +kernel
theorem dL_isPart_67 : decode cL_isPart 67 = .ok (.ifCond .lt 59, 3) := by decide +kernel
theorem dL_isPart_70 : decode cL_isPart 70 = .ok (.aload_n 2, 1) := by decide +kernel
theorem dL_isPart_71 : decode cL_isPart 71 = .ok (.bipush 14, 2) := by decide +kernel
theorem dL_isPart_73 : decode cL_isPart 73 = .ok (.iload 8, 2) := by decide +kernel
theorem dL_isPart_75 : decode cL_isPart 75 = .ok (.imul, 1) := by decide +kernel
theorem dL_isPart_76 : decode cL_isPart 76 = .ok (.bipush 12, 2) := by decide +kernel
theorem dL_isPart_78 : decode cL_isPart 78 = .ok (.iadd, 1) := by decide +kernel
theorem dL_isPart_79 : decode cL_isPart 79 = .ok (.iaload, 1) := by decide +kernel
theorem dL_isPart_80 : decode cL_isPart 80 = .ok (.ifCond .ne 40, 3) := by decide +kernel
theorem dL_isPart_83 : decode cL_isPart 83 = .ok (.aload_n 2, 1) := by decide +kernel
theorem dL_isPart_84 : decode cL_isPart 84 = .ok (.bipush 14, 2) := by decide +kernel
theorem dL_isPart_86 : decode cL_isPart 86 = .ok (.iload 8, 2) := by decide +kernel
theorem dL_isPart_88 : decode cL_isPart 88 = .ok (.imul, 1) := by decide +kernel
theorem dL_isPart_89 : decode cL_isPart 89 = .ok (.iaload, 1) := by decide +kernel
theorem dL_isPart_90 : decode cL_isPart 90 = .ok (.iload 4, 2) := by decide +kernel
theorem dL_isPart_92 : decode cL_isPart 92 = .ok (.ishr, 1) := by decide +kernel
theorem dL_isPart_93 : decode cL_isPart 93 = .ok (.aload_n 2, 1) := by decide +kernel
theorem dL_isPart_94 : decode cL_isPart 94 = .ok (.bipush 14, 2) := by decide +kernel
theorem dL_isPart_96 : decode cL_isPart 96 = .ok (.iload 8, 2) := by decide +kernel
theorem dL_isPart_98 : decode cL_isPart 98 = .ok (.imul, 1) := by decide +kernel
theorem dL_isPart_99 : decode cL_isPart 99 = .ok (.iaload, 1) := by decide +kernel
theorem dL_isPart_100 : decode cL_isPart 100 = .ok (.iload 5, 2) := by decide +kernel
theorem dL_isPart_102 : decode cL_isPart 102 = .ok (.ishr, 1) := by decide +kernel
theorem dL_isPart_103 : decode cL_isPart 103 = .ok (.iand, 1) := by decide +kernel
theorem dL_isPart_104 : decode cL_isPart 104 = .ok (.iconst 1, 1) := by decide +kernel
theorem dL_isPart_105 : decode cL_isPart 105 = .ok (.iand, 1) := by decide +kernel
theorem dL_isPart_106 : decode cL_isPart 106 = .ok (.iconst 1, 1) := by decide +kernel
theorem dL_isPart_107 : decode cL_isPart 107 = .ok (.if_icmp .ne 13, 3) := by decide +kernel
theorem dL_isPart_110 : decode cL_isPart 110 = .ok (.aload_n 2, 1) := by decide +kernel
theorem dL_isPart_111 : decode cL_isPart 111 = .ok (.aload_n 3, 1) := by decide +kernel
theorem dL_isPart_112 : decode cL_isPart 112 = .ok (.iload 8, 2) := by decide +kernel
theorem dL_isPart_114 : decode cL_isPart 114 = .ok (.invokestatic 31, 3) := by decide +kernel
theorem dL_isPart_117 : decode cL_isPart 117 = .ok (.iinc 7 1, 3) := by decide +kernel
theorem dL_isPart_120 : decode cL_isPart 120 = .ok (.iinc 8 (-1), 3) := by decide +kernel
theorem dL_isPart_123 : decode cL_isPart 123 = .ok (.goto (-58), 3) := by decide +kernel
theorem dL_isPart_126 : decode cL_isPart 126 = .ok (.aload_n 3, 1) := by decide +kernel
theorem dL_isPart_127 : decode cL_isPart 127 = .ok (.iconst 5, 1) := by decide +kernel
theorem dL_isPart_128 : decode cL_isPart 128 = .ok (.dup2, 1) := by decide +kernel
theorem dL_isPart_129 : decode cL_isPart 129 = .ok (.iaload, 1) := by decide +kernel
theorem dL_isPart_130 : decode cL_isPart 130 = .ok (.iload 7, 2) := by decide +kernel
theorem dL_isPart_132 : decode cL_isPart 132 = .ok (.iadd, 1) := by decide +kernel
theorem dL_isPart_133 : decode cL_isPart 133 = .ok (.iastore, 1) := by decide +kernel
theorem dL_isPart_134 : decode cL_isPart 134 = .ok (.aload_n 0, 1) := by decide +kernel
theorem dL_isPart_135 : decode cL_isPart 135 = .ok (.iload 4, 2) := by decide +kernel
theorem dL_isPart_137 : decode cL_isPart 137 = .ok (.iload 5, 2) := by decide +kernel
theorem dL_isPart_139 : decode cL_isPart 139 = .ok (.iload 6, 2) := by decide +kernel
theorem dL_isPart_141 : decode cL_isPart 141 = .ok (.invokevirtual 90, 3) := by decide +kernel
theorem dL_isPart_144 : decode cL_isPart 144 = .ok (.iload 7, 2) := by decide +kernel
theorem dL_isPart_146 : decode cL_isPart 146 = .ok (.if_icmp .ne 7, 3) := by decide +kernel
theorem dL_isPart_149 : decode cL_isPart 149 = .ok (.iconst 1, 1) := by decide +kernel
theorem dL_isPart_150 : decode cL_isPart 150 = .ok (.goto 4, 3) := by decide +kernel
theorem dL_isPart_153 : decode cL_isPart 153 = .ok (.iconst 0, 1) := by decide +kernel
theorem dL_isPart_154 : decode cL_isPart 154 = .ok (.ireturn, 1) := by decide +kernel
theorem dL_isPinned_0 : decode cL_isPinned 0 = .ok (.aload_n 2, 1) := by decide +kernel
theorem dL_isPinned_1 : decode cL_isPinned 1 = .ok (.aload_n 3, 1) := by decide +kernel
theorem dL_isPinned_2 : decode cL_isPinned 2 = .ok (.iload 4, 2) := by decide +kernel
theorem dL_isPinned_4 : decode cL_isPinned 4 = .ok (.invokestatic 35, 3) := by decide +kernel
theorem dL_isPinned_7 : decode cL_isPinned 7 = .ok (.istore 5, 2) := by decide +kernel
theorem dL_isPinned_9 : decode cL_isPinned 9 = .ok (.iload 5, 2) := by decide +kernel
theorem dL_isPinned_11 : decode cL_isPinned 11 = .ok (.ifCond .ge 20, 3) := by decide +kernel
theorem dL_isPinned_14 : decode cL_isPinned 14 = .ok (.aload_n 0, 1) := by decide +kernel
theorem dL_isPinned_15 : decode cL_isPinned 15 = .ok (.iload 4, 2) := by decide +kernel
theorem dL_isPinned_17 : decode cL_isPinned 17 = .ok (.invokevirtual 94, 3) := by decide +kernel
theorem dL_isPinned_20 : decode cL_isPinned 20 = .ok (.bipush (-2), 2) := by decide +kernel
theorem dL_isPinned_22 : decode cL_isPinned 22 = .ok (.if_icmp .ne 7, 3) := by decide +kernel
theorem dL_isPinned_25 : decode cL_isPinned 25 = .ok (.iconst 1, 1) := by decide +kernel
theorem dL_isPinned_26 : decode cL_isPinned 26 = .ok (.goto 4, 3) := by decide +kernel
theorem dL_isPinned_29 : decode cL_isPinned 29 = .ok (.iconst 0, 1) := by decide +kernel
theorem dL_isPinned_30 : decode cL_isPinned 30 = .ok (.ireturn, 1) := by decide +kernel
theorem dL_isPinned_31 : decode cL_isPinned 31 = .ok (.aload_n 2, 1) := by decide +kernel
theorem dL_isPinned_32 : decode cL_isPinned 32 = .ok (.bipush 14, 2) := by decide +kernel
theorem dL_isPinned_34 : decode cL_isPinned 34 = .ok (.iload 5, 2) := by decide +kernel
theorem dL_isPinned_36 : decode cL_isPinned 36 = .ok (.imul, 1) := by decide +kernel
theorem dL_isPinned_37 : decode cL_isPinned 37 = .ok (.bipush 12, 2) := by decide +kernel
theorem dL_isPinned_39 : decode cL_isPinned 39 = .ok (.iadd, 1) := by decide +kernel
theorem dL_isPinned_40 : decode cL_isPinned 40 = .ok (.iconst 1, 1) := by decide +kernel
theorem dL_isPinned_41 : decode cL_isPinned 41 = .ok (.aload_n 2, 1) := by decide +kernel
theorem dL_isPinned_42 : decode cL_isPinned 42 = .ok (.bipush 14, 2) := by decide +kernel
theorem dL_isPinned_44 : decode cL_isPinned 44 = .ok (.iload 5, 2) := by decide +kernel
theorem dL_isPinned_46 : decode cL_isPinned 46 = .ok (.imul, 1) := by decide +kernel
theorem dL_isPinned_47 : decode cL_isPinned 47 = .ok (.bipush 12, 2) := by decide +kernel
theorem dL_isPinned_49 : decode cL_isPinned 49 = .ok (.iadd, 1) := by decide +kernel
theorem dL_isPinned_50 : decode cL_isPinned 50 = .ok (.iaload, 1) := by decide +kernel
theorem dL_isPinned_51 : decode cL_isPinned 51 = .ok (.isub, 1) := by decide +kernel
theorem dL_isPinned_52 : decode cL_isPinned 52 = .ok (.iastore, 1) := by decide +kernel
theorem dL_isPinned_53 : decode cL_isPinned 53 = .ok (.aload_n 2, 1) := by decide +kernel
theorem dL_isPinned_54 : decode cL_isPinned 54 = .ok (.bipush 14, 2) := by decide +kernel
theorem dL_isPinned_56 : decode cL_isPinned 56 = .ok (.iload 5, 2) := by decide +kernel
theorem dL_isPinned_58 : decode cL_isPinned 58 = .ok (.imul, 1) := by decide +kernel
theorem dL_isPinned_59 : decode cL_isPinned 59 = .ok (.bipush 12, 2) := by decide +kernel
theorem dL_isPinned_61 : decode cL_isPinned 61 = .ok (.iadd, 1) := by decide +kernel
theorem dL_isPinned_62 : decode cL_isPinned 62 = .ok (.iaload, 1) := by decide +kernel
theorem dL_isPinned_63 : decode cL_isPinned 63 = .ok (.istore 6, 2) := by decide +kernel
theorem dL_isPinned_65 : decode cL_isPinned 65 = .ok (.iload 6, 2) := by decide +kernel
theorem dL_isPinned_67 : decode cL_isPinned 67 = .ok (.ifCond .ne 12, 3) := by decide +kernel
theorem dL_isPinned_70 : decode cL_isPinned 70 = .ok (.aload_n 1, 1) := by decide +kernel
theorem dL_isPinned_71 : decode cL_isPinned 71 = .ok (.aload_n 2, 1) := by decide +kernel
theorem dL_isPinned_72 : decode cL_isPinned 72 = .ok (.aload_n 3, 1) := by decide +kernel
theorem dL_isPinned_73 : decode cL_isPinned 73 = .ok (.invokestatic 53, 3) := by decide +kernel
theorem dL_isPinned_76 : decode cL_isPinned 76 = .ok (.goto 4, 3) := by decide +kernel
theorem dL_isPinned_79 : decode cL_isPinned 79 = .ok (.iconst 0, 1) := by decide +kernel
theorem dL_isPinned_80 : decode cL_isPinned 80 = .ok (.istore 7, 2) := by decide +kernel
theorem dL_isPinned_82 : decode cL_isPinned 82 = .ok (.aload_n 0, 1) := by decide +kernel
theorem dL_isPinned_83 : decode cL_isPinned 83 = .ok (.iload 4, 2) := by decide +kernel
theorem dL_isPinned_85 : decode cL_isPinned 85 = .ok (.invokevirtual 94, 3) := by decide +kernel
theorem dL_isPinned_88 : decode cL_isPinned 88 = .ok (.iload 6, 2) := by decide +kernel
theorem dL_isPinned_90 : decode cL_isPinned 90 = .ok (.if_icmp .ne 12, 3) := by decide +kernel
theorem dL_isPinned_93 : decode cL_isPinned 93 = .ok (.iload 7, 2) := by decide +kernel
theorem dL_isPinned_95 : decode cL_isPinned 95 = .ok (.ifCond .lt 7, 3) := by decide +kernel
theorem dL_isPinned_98 : decode cL_isPinned 98 = .ok (.iconst 1, 1) := by decide +kernel
theorem dL_isPinned_99 : decode cL_isPinned 99 = .ok (.goto 4, 3) := by decide +kernel
theorem dL_isPinned_102 : decode cL_isPinned 102 = .ok (.iconst 0, 1) := by decide +kernel
theorem dL_isPinned_103 : decode cL_isPinned 103 = .ok (.ireturn, 1) := by decide +kernel
theorem dL_isActed_0 : decode cL_isActed 0 = .ok (.iconst 1, 1) := by decide +kernel
theorem dL_isActed_1 : decode cL_isActed 1 = .ok (.iload 7, 2) := by decide +kernel
theorem dL_isActed_3 : decode cL_isActed 3 = .ok (.bipush 31, 2) := by decide +kernel
theorem dL_isActed_5 : decode cL_isActed 5 = .ok (.irem, 1) := by decide +kernel
theorem dL_isActed_6 : decode cL_isActed 6 = .ok (.iadd, 1) := by decide +kernel
theorem dL_isActed_7 : decode cL_isActed 7 = .ok (.istore 8, 2) := by decide +kernel
theorem dL_isActed_9 : decode cL_isActed 9 = .ok (.iload 6, 2) := by decide +kernel
theorem dL_isActed_11 : decode cL_isActed 11 = .ok (.iconst 4, 1) := by decide +kernel
theorem dL_isActed_12 : decode cL_isActed 12 = .ok (.if_icmp .ge 75, 3) := by decide +kernel
theorem dL_isActed_15 : decode cL_isActed 15 = .ok (.iload 7, 2) := by decide +kernel
theorem dL_isActed_17 : decode cL_isActed 17 = .ok (.iconst 5, 1) := by decide +kernel
theorem dL_isActed_18 : decode cL_isActed 18 = .ok (.idiv, 1) := by decide +kernel
theorem dL_isActed_19 : decode cL_isActed 19 = .ok (.iconst 3, 1) := by decide +kernel
theorem dL_isActed_20 : decode cL_isActed 20 = .ok (.irem, 1) := by decide +kernel
theorem dL_isActed_21 : decode cL_isActed 21 = .ok (.ifCond .ne 17, 3) := by decide +kernel
theorem dL_isActed_24 : decode cL_isActed 24 = .ok (.iconst 1, 1) := by decide +kernel
theorem dL_isActed_25 : decode cL_isActed 25 = .ok (.iload 7, 2) := by decide +kernel
theorem dL_isActed_27 : decode cL_isActed 27 = .ok (.bipush 15, 2) := by decide +kernel
theorem dL_isActed_29 : decode cL_isActed 29 = .ok (.idiv, 1) := by decide +kernel
theorem dL_isActed_30 : decode cL_isActed 30 = .ok (.sipush 500, 3) := by decide +kernel
theorem dL_isActed_33 : decode cL_isActed 33 = .ok (.irem, 1) := by decide +kernel
theorem dL_isActed_34 : decode cL_isActed 34 = .ok (.iadd, 1) := by decide +kernel
theorem dL_isActed_35 : decode cL_isActed 35 = .ok (.goto 13, 3) := by decide +kernel
theorem dL_isActed_38 : decode cL_isActed 38 = .ok (.iconst 1, 1) := by decide +kernel
theorem dL_isActed_39 : decode cL_isActed 39 = .ok (.iload 7, 2) := by decide +kernel
theorem dL_isActed_41 : decode cL_isActed 41 = .ok (.bipush 15, 2) := by decide +kernel
theorem dL_isActed_43 : decode cL_isActed 43 = .ok (.idiv, 1) := by decide +kernel
theorem dL_isActed_44 : decode cL_isActed 44 = .ok (.bipush 30, 2) := by decide +kernel
theorem dL_isActed_46 : decode cL_isActed 46 = .ok (.irem, 1) := by decide +kernel
theorem dL_isActed_47 : decode cL_isActed 47 = .ok (.iadd, 1) := by decide +kernel
theorem dL_isActed_48 : decode cL_isActed 48 = .ok (.istore 9, 2) := by decide +kernel
theorem dL_isActed_50 : decode cL_isActed 50 = .ok (.aload_n 1, 1) := by decide +kernel
theorem dL_isActed_51 : decode cL_isActed 51 = .ok (.iload 7, 2) := by decide +kernel
theorem dL_isActed_53 : decode cL_isActed 53 = .ok (.iconst 5, 1) := by decide +kernel
theorem dL_isActed_54 : decode cL_isActed 54 = .ok (.irem, 1) := by decide +kernel
theorem dL_isActed_55 : decode cL_isActed 55 = .ok (.iaload, 1) := by decide +kernel
theorem dL_isActed_56 : decode cL_isActed 56 = .ok (.istore 10, 2) := by decide +kernel
theorem dL_isActed_58 : decode cL_isActed 58 = .ok (.aload_n 1, 1) := by decide +kernel
theorem dL_isActed_59 : decode cL_isActed 59 = .ok (.iload 7, 2) := by decide +kernel
theorem dL_isActed_61 : decode cL_isActed 61 = .ok (.iconst 5, 1) := by decide +kernel
theorem dL_isActed_62 : decode cL_isActed 62 = .ok (.irem, 1) := by decide +kernel
theorem dL_isActed_63 : decode cL_isActed 63 = .ok (.iload 9, 2) := by decide +kernel
theorem dL_isActed_65 : decode cL_isActed 65 = .ok (.iastore, 1) := by decide +kernel
theorem dL_isActed_66 : decode cL_isActed 66 = .ok (.aload_n 0, 1) := by decide +kernel
theorem dL_isActed_67 : decode cL_isActed 67 = .ok (.iload 7, 2) := by decide +kernel
theorem dL_isActed_69 : decode cL_isActed 69 = .ok (.iconst 5, 1) := by decide +kernel
theorem dL_isActed_70 : decode cL_isActed 70 = .ok (.irem, 1) := by decide +kernel
theorem dL_isActed_71 : decode cL_isActed 71 = .ok (.iload 9, 2) := by decide +kernel
theorem dL_isActed_73 : decode cL_isActed 73 = .ok (.invokevirtual 97, 3) := by decide +kernel
theorem dL_isActed_76 : decode cL_isActed 76 = .ok (.iload 10, 2) := by decide +kernel
theorem dL_isActed_78 : decode cL_isActed 78 = .ok (.if_icmp .ne 7, 3) := by decide +kernel
theorem dL_isActed_81 : decode cL_isActed 81 = .ok (.iconst 1, 1) := by decide +kernel
theorem dL_isActed_82 : decode cL_isActed 82 = .ok (.goto 4, 3) := by decide +kernel
theorem dL_isActed_85 : decode cL_isActed 85 = .ok (.iconst 0, 1) := by decide +kernel
theorem dL_isActed_86 : decode cL_isActed 86 = .ok (.ireturn, 1) := by decide +kernel
theorem dL_isActed_87 : decode cL_isActed 87 = .ok (.iload 6, 2) := by decide +kernel
theorem dL_isActed_89 : decode cL_isActed 89 = .ok (.bipush 6, 2) := by decide +kernel
theorem dL_isActed_91 : decode cL_isActed 91 = .ok (.if_icmp .ge 31, 3) := by decide +kernel
theorem dL_isActed_94 : decode cL_isActed 94 = .ok (.aload_n 0, 1) := by decide +kernel
theorem dL_isActed_95 : decode cL_isActed 95 = .ok (.aload_n 1, 1) := by decide +kernel
theorem dL_isActed_96 : decode cL_isActed 96 = .ok (.aload_n 2, 1) := by decide +kernel
theorem dL_isActed_97 : decode cL_isActed 97 = .ok (.aload_n 3, 1) := by decide +kernel
theorem dL_isActed_98 : decode cL_isActed 98 = .ok (.iload 7, 2) := by decide +kernel
theorem dL_isActed_100 : decode cL_isActed 100 = .ok (.iconst 5, 1) := by decide +kernel
theorem dL_isActed_101 : decode cL_isActed 101 = .ok (.irem, 1) := by decide +kernel
theorem dL_isActed_102 : decode cL_isActed 102 = .ok (.iload 7, 2) := by decide +kernel
theorem dL_isActed_104 : decode cL_isActed 104 = .ok (.iconst 5, 1) := by decide +kernel
theorem dL_isActed_105 : decode cL_isActed 105 = .ok (.idiv, 1) := by decide +kernel
theorem dL_isActed_106 : decode cL_isActed 106 = .ok (.iconst 5, 1) := by decide +kernel
theorem dL_isActed_107 : decode cL_isActed 107 = .ok (.irem, 1) := by decide +kernel
theorem dL_isActed_108 : decode cL_isActed 108 = .ok (.iconst 1, 1) := by decide +kernel
theorem dL_isActed_109 : decode cL_isActed 109 = .ok (.iload 7, 2) := by decide +kernel
theorem dL_isActed_111 : decode cL_isActed 111 = .ok (.bipush 25, 2) := by decide +kernel
theorem dL_isActed_113 : decode cL_isActed 113 = .ok (.idiv, 1) := by decide +kernel
theorem dL_isActed_114 : decode cL_isActed 114 = .ok (.bipush 100, 2) := by decide +kernel
theorem dL_isActed_116 : decode cL_isActed 116 = .ok (.irem, 1) := by decide +kernel
theorem dL_isActed_117 : decode cL_isActed 117 = .ok (.iadd, 1) := by decide +kernel
theorem dL_isActed_118 : decode cL_isActed 118 = .ok (.invokestatic 100, 3) := by decide +kernel
theorem dL_isActed_121 : decode cL_isActed 121 = .ok (.ireturn, 1) := by decide +kernel
theorem dL_isActed_122 : decode cL_isActed 122 = .ok (.iload 6, 2) := by decide +kernel
theorem dL_isActed_124 : decode cL_isActed 124 = .ok (.bipush 6, 2) := by decide +kernel
theorem dL_isActed_126 : decode cL_isActed 126 = .ok (.if_icmp .ne 44, 3) := by decide +kernel
theorem dL_isActed_129 : decode cL_isActed 129 = .ok (.aload_n 1, 1) := by decide +kernel
theorem dL_isActed_130 : decode cL_isActed 130 = .ok (.iconst 5, 1) := by decide +kernel
theorem dL_isActed_131 : decode cL_isActed 131 = .ok (.iload 7, 2) := by decide +kernel
theorem dL_isActed_133 : decode cL_isActed 133 = .ok (.iconst 5, 1) := by decide +kernel
theorem dL_isActed_134 : decode cL_isActed 134 = .ok (.irem, 1) := by decide +kernel
theorem dL_isActed_135 : decode cL_isActed 135 = .ok (.iadd, 1) := by decide +kernel
theorem dL_isActed_136 : decode cL_isActed 136 = .ok (.aload_n 1, 1) := by decide +kernel
theorem dL_isActed_137 : decode cL_isActed 137 = .ok (.iload 7, 2) := by decide +kernel
theorem dL_isActed_139 : decode cL_isActed 139 = .ok (.iconst 5, 1) := by decide +kernel
theorem dL_isActed_140 : decode cL_isActed 140 = .ok (.irem, 1) := by decide +kernel
theorem dL_isActed_141 : decode cL_isActed 141 = .ok (.iaload, 1) := by decide +kernel
theorem dL_isActed_142 : decode cL_isActed 142 = .ok (.iastore, 1) := by decide +kernel
theorem dL_isActed_143 : decode cL_isActed 143 = .ok (.aload_n 1, 1) := by decide +kernel
theorem dL_isActed_144 : decode cL_isActed 144 = .ok (.aload_n 2, 1) := by decide +kernel
theorem dL_isActed_145 : decode cL_isActed 145 = .ok (.aload_n 3, 1) := by decide +kernel
theorem dL_isActed_146 : decode cL_isActed 146 = .ok (.invokestatic 53, 3) := by decide +kernel
theorem dL_isActed_149 : decode cL_isActed 149 = .ok (.istore 9, 2) := by decide +kernel
theorem dL_isActed_151 : decode cL_isActed 151 = .ok (.aload_n 0, 1) := by decide +kernel
theorem dL_isActed_152 : decode cL_isActed 152 = .ok (.iload 7, 2) := by decide +kernel
theorem dL_isActed_154 : decode cL_isActed 154 = .ok (.iconst 5, 1) := by decide +kernel
theorem dL_isActed_155 : decode cL_isActed 155 = .ok (.irem, 1) := by decide +kernel
theorem dL_isActed_156 : decode cL_isActed 156 = .ok (.invokevirtual 104, 3) := by decide +kernel
theorem dL_isActed_159 : decode cL_isActed 159 = .ok (.iload 9, 2) := by decide +kernel
theorem dL_isActed_161 : decode cL_isActed 161 = .ok (.if_icmp .ne 7, 3) := by decide +kernel
theorem dL_isActed_164 : decode cL_isActed 164 = .ok (.iconst 1, 1) := by decide +kernel
theorem dL_isActed_165 : decode cL_isActed 165 = .ok (.goto 4, 3) := by decide +kernel
theorem dL_isActed_168 : decode cL_isActed 168 = .ok (.iconst 0, 1) := by decide +kernel
theorem dL_isActed_169 : decode cL_isActed 169 = .ok (.ireturn, 1) := by decide +kernel
theorem dL_isActed_170 : decode cL_isActed 170 = .ok (.iload 6, 2) := by decide +kernel
theorem dL_isActed_172 : decode cL_isActed 172 = .ok (.bipush 12, 2) := by decide +kernel
theorem dL_isActed_174 : decode cL_isActed 174 = .ok (.if_icmp .ge 68, 3) := by decide +kernel
theorem dL_isActed_177 : decode cL_isActed 177 = .ok (.iload 6, 2) := by decide +kernel
theorem dL_isActed_179 : decode cL_isActed 179 = .ok (.bipush 9, 2) := by decide +kernel
theorem dL_isActed_181 : decode cL_isActed 181 = .ok (.if_icmp .ge 23, 3) := by decide +kernel
theorem dL_isActed_184 : decode cL_isActed 184 = .ok (.aload_n 3, 1) := by decide +kernel
theorem dL_isActed_185 : decode cL_isActed 185 = .ok (.iconst 0, 1) := by decide +kernel
theorem dL_isActed_186 : decode cL_isActed 186 = .ok (.iaload, 1) := by decide +kernel
theorem dL_isActed_187 : decode cL_isActed 187 = .ok (.ifCond .le 17, 3) := by decide +kernel
theorem dL_isActed_190 : decode cL_isActed 190 = .ok (.aload_n 2, 1) := by decide +kernel
theorem dL_isActed_191 : decode cL_isActed 191 = .ok (.bipush 14, 2) := by decide +kernel
theorem dL_isActed_193 : decode cL_isActed 193 = .ok (.iload 7, 2) := by decide +kernel
theorem dL_isActed_195 : decode cL_isActed 195 = .ok (.aload_n 3, 1) := by decide +kernel
theorem dL_isActed_196 : decode cL_isActed 196 = .ok (.iconst 0, 1) := by decide +kernel
theorem dL_isActed_197 : decode cL_isActed 197 = .ok (.iaload, 1) := by decide +kernel
theorem dL_isActed_198 : decode cL_isActed 198 = .ok (.irem, 1) := by decide +kernel
theorem dL_isActed_199 : decode cL_isActed 199 = .ok (.imul, 1) := by decide +kernel
theorem dL_isActed_200 : decode cL_isActed 200 = .ok (.iaload, 1) := by decide +kernel
theorem dL_isActed_201 : decode cL_isActed 201 = .ok (.goto 5, 3) := by decide +kernel
theorem dL_isActed_204 : decode cL_isActed 204 = .ok (.iload 8, 2) := by decide +kernel
theorem dL_isActed_206 : decode cL_isActed 206 = .ok (.istore 9, 2) := by decide +kernel
theorem dL_isActed_208 : decode cL_isActed 208 = .ok (.aload_n 1, 1) := by decide +kernel
theorem dL_isActed_209 : decode cL_isActed 209 = .ok (.aload_n 2, 1) := by decide +kernel
theorem dL_isActed_210 : decode cL_isActed 210 = .ok (.aload_n 3, 1) := by decide +kernel
theorem dL_isActed_211 : decode cL_isActed 211 = .ok (.aload 4, 2) := by decide +kernel
theorem dL_isActed_213 : decode cL_isActed 213 = .ok (.aload 5, 2) := by decide +kernel
theorem dL_isActed_215 : decode cL_isActed 215 = .ok (.iload 9, 2) := by decide +kernel
theorem dL_isActed_217 : decode cL_isActed 217 = .ok (.invokestatic 107, 3) := by decide +kernel
theorem dL_isActed_220 : decode cL_isActed 220 = .ok (.lstore 10, 2) := by decide +kernel
theorem dL_isActed_222 : decode cL_isActed 222 = .ok (.aload_n 0, 1) := by decide +kernel
theorem dL_isActed_223 : decode cL_isActed 223 = .ok (.iload 9, 2) := by decide +kernel
theorem dL_isActed_225 : decode cL_isActed 225 = .ok (.invokevirtual 111, 3) := by decide +kernel
theorem dL_isActed_228 : decode cL_isActed 228 = .ok (.lload 10, 2) := by decide +kernel
theorem dL_isActed_230 : decode cL_isActed 230 = .ok (.invokestatic 65, 3) := by decide +kernel
theorem dL_isActed_233 : decode cL_isActed 233 = .ok (.if_icmp .ne 7, 3) := by decide +kernel
theorem dL_isActed_236 : decode cL_isActed 236 = .ok (.iconst 1, 1) := by decide +kernel
theorem dL_isActed_237 : decode cL_isActed 237 = .ok (.goto 4, 3) := by decide +kernel
theorem dL_isActed_240 : decode cL_isActed 240 = .ok (.iconst 0, 1) := by decide +kernel
theorem dL_isActed_241 : decode cL_isActed 241 = .ok (.ireturn, 1) := by decide +kernel
theorem dL_isActed_242 : decode cL_isActed 242 = .ok (.iload 6, 2) := by decide +kernel
theorem dL_isActed_244 : decode cL_isActed 244 = .ok (.bipush 14, 2) := by decide +kernel
theorem dL_isActed_246 : decode cL_isActed 246 = .ok (.if_icmp .ge 40, 3) := by decide +kernel
theorem dL_isActed_249 : decode cL_isActed 249 = .ok (.aload_n 0, 1) := by decide +kernel
theorem dL_isActed_250 : decode cL_isActed 250 = .ok (.aload_n 1, 1) := by decide +kernel
theorem dL_isActed_251 : decode cL_isActed 251 = .ok (.aload_n 2, 1) := by decide +kernel
theorem dL_isActed_252 : decode cL_isActed 252 = .ok (.aload_n 3, 1) := by decide +kernel
theorem dL_isActed_253 : decode cL_isActed 253 = .ok (.iload 7, 2) := by decide +kernel
theorem dL_isActed_255 : decode cL_isActed 255 = .ok (.iconst 3, 1) := by decide +kernel
theorem dL_isActed_256 : decode cL_isActed 256 = .ok (.irem, 1) := by decide +kernel
theorem dL_isActed_257 : decode cL_isActed 257 = .ok (.ifCond .le 23, 3) := by decide +kernel
theorem dL_isActed_260 : decode cL_isActed 260 = .ok (.aload_n 3, 1) := by decide +kernel
theorem dL_isActed_261 : decode cL_isActed 261 = .ok (.iconst 0, 1) := by decide +kernel
theorem dL_isActed_262 : decode cL_isActed 262 = .ok (.iaload, 1) := by decide +kernel
theorem dL_isActed_263 : decode cL_isActed 263 = .ok (.ifCond .le 17, 3) := by decide +kernel
theorem dL_isActed_266 : decode cL_isActed 266 = .ok (.aload_n 2, 1) := by decide +kernel
theorem dL_isActed_267 : decode cL_isActed 267 = .ok (.bipush 14, 2) := by decide +kernel
theorem dL_isActed_269 : decode cL_isActed 269 = .ok (.iload 7, 2) := by decide +kernel
theorem dL_isActed_271 : decode cL_isActed 271 = .ok (.aload_n 3, 1) := by decide +kernel
theorem dL_isActed_272 : decode cL_isActed 272 = .ok (.iconst 0, 1) := by decide +kernel
theorem dL_isActed_273 : decode cL_isActed 273 = .ok (.iaload, 1) := by decide +kernel
theorem dL_isActed_274 : decode cL_isActed 274 = .ok (.irem, 1) := by decide +kernel
theorem dL_isActed_275 : decode cL_isActed 275 = .ok (.imul, 1) := by decide +kernel
theorem dL_isActed_276 : decode cL_isActed 276 = .ok (.iaload, 1) := by decide +kernel
theorem dL_isActed_277 : decode cL_isActed 277 = .ok (.goto 5, 3) := by decide +kernel
theorem dL_isActed_280 : decode cL_isActed 280 = .ok (.iload 8, 2) := by decide +kernel
theorem dL_isActed_282 : decode cL_isActed 282 = .ok (.invokestatic 113, 3) := by decide +kernel
theorem dL_isActed_285 : decode cL_isActed 285 = .ok (.ireturn, 1) := by decide +kernel
theorem dL_isActed_286 : decode cL_isActed 286 = .ok (.iload 6, 2) := by decide +kernel
theorem dL_isActed_288 : decode cL_isActed 288 = .ok (.bipush 14, 2) := by decide +kernel
theorem dL_isActed_290 : decode cL_isActed 290 = .ok (.if_icmp .ne 102, 3) := by decide +kernel
theorem dL_isActed_293 : decode cL_isActed 293 = .ok (.aload_n 3, 1) := by decide +kernel
theorem dL_isActed_294 : decode cL_isActed 294 = .ok (.iconst 0, 1) := by decide +kernel
theorem dL_isActed_295 : decode cL_isActed 295 = .ok (.iaload, 1) := by decide +kernel
theorem dL_isActed_296 : decode cL_isActed 296 = .ok (.ifCond .le 24, 3) := by decide +kernel
theorem dL_isActed_299 : decode cL_isActed 299 = .ok (.iload 7, 2) := by decide +kernel
theorem dL_isActed_301 : decode cL_isActed 301 = .ok (.iconst 4, 1) := by decide +kernel
theorem dL_isActed_302 : decode cL_isActed 302 = .ok (.irem, 1) := by decide +kernel
theorem dL_isActed_303 : decode cL_isActed 303 = .ok (.ifCond .le 17, 3) := by decide +kernel
theorem dL_isActed_306 : decode cL_isActed 306 = .ok (.aload_n 2, 1) := by decide +kernel
theorem dL_isActed_307 : decode cL_isActed 307 = .ok (.bipush 14, 2) := by decide +kernel
theorem dL_isActed_309 : decode cL_isActed 309 = .ok (.iload 7, 2) := by decide +kernel
theorem dL_isActed_311 : decode cL_isActed 311 = .ok (.aload_n 3, 1) := by decide +kernel
theorem dL_isActed_312 : decode cL_isActed 312 = .ok (.iconst 0, 1) := by decide +kernel
theorem dL_isActed_313 : decode cL_isActed 313 = .ok (.iaload, 1) := by decide +kernel
theorem dL_isActed_314 : decode cL_isActed 314 = .ok (.irem, 1) := by decide +kernel
theorem dL_isActed_315 : decode cL_isActed 315 = .ok (.imul, 1) := by decide +kernel
theorem dL_isActed_316 : decode cL_isActed 316 = .ok (.iaload, 1) := by decide +kernel
theorem dL_isActed_317 : decode cL_isActed 317 = .ok (.goto 5, 3) := by decide +kernel
theorem dL_isActed_320 : decode cL_isActed 320 = .ok (.iload 8, 2) := by decide +kernel
theorem dL_isActed_322 : decode cL_isActed 322 = .ok (.istore 9, 2) := by decide +kernel
theorem dL_isActed_324 : decode cL_isActed 324 = .ok (.aload_n 2, 1) := by decide +kernel
theorem dL_isActed_325 : decode cL_isActed 325 = .ok (.aload_n 3, 1) := by decide +kernel
theorem dL_isActed_326 : decode cL_isActed 326 = .ok (.iload 9, 2) := by decide +kernel
theorem dL_isActed_328 : decode cL_isActed 328 = .ok (.invokestatic 35, 3) := by decide +kernel
theorem dL_isActed_331 : decode cL_isActed 331 = .ok (.istore 10, 2) := by decide +kernel
theorem dL_isActed_333 : decode cL_isActed 333 = .ok (.iload 10, 2) := by decide +kernel
theorem dL_isActed_335 : decode cL_isActed 335 = .ok (.ifCond .ge 8, 3) := by decide +kernel
theorem dL_isActed_338 : decode cL_isActed 338 = .ok (.bipush (-2), 2) := by decide +kernel
theorem dL_isActed_340 : decode cL_isActed 340 = .ok (.goto 13, 3) := by decide +kernel
theorem dL_isActed_343 : decode cL_isActed 343 = .ok (.aload_n 2, 1) := by decide +kernel
theorem dL_isActed_344 : decode cL_isActed 344 = .ok (.bipush 14, 2) := by decide +kernel
theorem dL_isActed_346 : decode cL_isActed 346 = .ok (.iload 10, 2) := by decide +kernel
theorem dL_isActed_348 : decode cL_isActed 348 = .ok (.imul, 1) := by decide +kernel
theorem dL_isActed_349 : decode cL_isActed 349 = .ok (.bipush 11, 2) := by decide +kernel
theorem dL_isActed_351 : decode cL_isActed 351 = .ok (.iadd, 1) := by decide +kernel
theorem dL_isActed_352 : decode cL_isActed 352 = .ok (.iaload, 1) := by decide +kernel
theorem dL_isActed_353 : decode cL_isActed 353 = .ok (.istore 11, 2) := by decide +kernel
theorem dL_isActed_355 : decode cL_isActed 355 = .ok (.iload 10, 2) := by decide +kernel
theorem dL_isActed_357 : decode cL_isActed 357 = .ok (.ifCond .lt 18, 3) := by decide +kernel
theorem dL_isActed_360 : decode cL_isActed 360 = .ok (.aload_n 2, 1) := by decide +kernel
theorem dL_isActed_361 : decode cL_isActed 361 = .ok (.aload_n 3, 1) := by decide +kernel
theorem dL_isActed_362 : decode cL_isActed 362 = .ok (.iload 10, 2) := by decide +kernel
theorem dL_isActed_364 : decode cL_isActed 364 = .ok (.invokestatic 31, 3) := by decide +kernel
theorem dL_isActed_367 : decode cL_isActed 367 = .ok (.aload_n 3, 1) := by decide +kernel
theorem dL_isActed_368 : decode cL_isActed 368 = .ok (.bipush 6, 2) := by decide +kernel
theorem dL_isActed_370 : decode cL_isActed 370 = .ok (.dup2, 1) := by decide +kernel
theorem dL_isActed_371 : decode cL_isActed 371 = .ok (.iaload, 1) := by decide +kernel
theorem dL_isActed_372 : decode cL_isActed 372 = .ok (.iconst 1, 1) := by decide +kernel
theorem dL_isActed_373 : decode cL_isActed 373 = .ok (.iadd, 1) := by decide +kernel
theorem dL_isActed_374 : decode cL_isActed 374 = .ok (.iastore, 1) := by decide +kernel
theorem dL_isActed_375 : decode cL_isActed 375 = .ok (.aload_n 0, 1) := by decide +kernel
theorem dL_isActed_376 : decode cL_isActed 376 = .ok (.iload 9, 2) := by decide +kernel
theorem dL_isActed_378 : decode cL_isActed 378 = .ok (.invokevirtual 117, 3) := by decide +kernel
theorem dL_isActed_381 : decode cL_isActed 381 = .ok (.iload 11, 2) := by decide +kernel
theorem dL_isActed_383 : decode cL_isActed 383 = .ok (.if_icmp .ne 7, 3) := by decide +kernel
theorem dL_isActed_386 : decode cL_isActed 386 = .ok (.iconst 1, 1) := by decide +kernel
theorem dL_isActed_387 : decode cL_isActed 387 = .ok (.goto 4, 3) := by decide +kernel
theorem dL_isActed_390 : decode cL_isActed 390 = .ok (.iconst 0, 1) := by decide +kernel
theorem dL_isActed_391 : decode cL_isActed 391 = .ok (.ireturn, 1) := by decide +kernel
theorem dL_isActed_392 : decode cL_isActed 392 = .ok (.aload_n 1, 1) := by decide +kernel
theorem dL_isActed_393 : decode cL_isActed 393 = .ok (.bipush 35, 2) := by decide +kernel
theorem dL_isActed_395 : decode cL_isActed 395 = .ok (.bipush 100, 2) := by decide +kernel
theorem dL_isActed_397 : decode cL_isActed 397 = .ok (.iload 7, 2) := by decide +kernel
theorem dL_isActed_399 : decode cL_isActed 399 = .ok (.sipush 901, 3) := by decide +kernel
theorem dL_isActed_402 : decode cL_isActed 402 = .ok (.irem, 1) := by decide +kernel
theorem dL_isActed_403 : decode cL_isActed 403 = .ok (.iadd, 1) := by decide +kernel
theorem dL_isActed_404 : decode cL_isActed 404 = .ok (.iastore, 1) := by decide +kernel
theorem dL_isActed_405 : decode cL_isActed 405 = .ok (.aload_n 1, 1) := by decide +kernel
theorem dL_isActed_406 : decode cL_isActed 406 = .ok (.aload_n 2, 1) := by decide +kernel
theorem dL_isActed_407 : decode cL_isActed 407 = .ok (.aload_n 3, 1) := by decide +kernel
theorem dL_isActed_408 : decode cL_isActed 408 = .ok (.invokestatic 53, 3) := by decide +kernel
theorem dL_isActed_411 : decode cL_isActed 411 = .ok (.istore 9, 2) := by decide +kernel
theorem dL_isActed_413 : decode cL_isActed 413 = .ok (.aload_n 0, 1) := by decide +kernel
theorem dL_isActed_414 : decode cL_isActed 414 = .ok (.aload_n 1, 1) := by decide +kernel
theorem dL_isActed_415 : decode cL_isActed 415 = .ok (.bipush 35, 2) := by decide +kernel
theorem dL_isActed_417 : decode cL_isActed 417 = .ok (.iaload, 1) := by decide +kernel
theorem dL_isActed_418 : decode cL_isActed 418 = .ok (.invokevirtual 120, 3) := by decide +kernel
theorem dL_isActed_421 : decode cL_isActed 421 = .ok (.iload 9, 2) := by decide +kernel
theorem dL_isActed_423 : decode cL_isActed 423 = .ok (.if_icmp .ne 7, 3) := by decide +kernel
theorem dL_isActed_426 : decode cL_isActed 426 = .ok (.iconst 1, 1) := by decide +kernel
theorem dL_isActed_427 : decode cL_isActed 427 = .ok (.goto 4, 3) := by decide +kernel
theorem dL_isActed_430 : decode cL_isActed 430 = .ok (.iconst 0, 1) := by decide +kernel
theorem dL_isActed_431 : decode cL_isActed 431 = .ok (.ireturn, 1) := by decide +kernel
theorem dL_law_0 : decode cL_law 0 = .ok (.new 60, 3) := by decide +kernel
theorem dL_law_3 : decode cL_law 3 = .ok (.dup, 1) := by decide +kernel
theorem dL_law_4 : decode cL_law 4 = .ok (.invokespecial 123, 3) := by decide +kernel
theorem dL_law_7 : decode cL_law 7 = .ok (.astore_n 1, 1) := by decide +kernel
theorem dL_law_8 : decode cL_law 8 = .ok (.bipush 36, 2) := by decide +kernel
theorem dL_law_10 : decode cL_law 10 = .ok (.newarray .int, 2) := by decide +kernel
theorem dL_law_12 : decode cL_law 12 = .ok (.astore_n 2, 1) := by decide +kernel
theorem dL_law_13 : decode cL_law 13 = .ok (.bipush 56, 2) := by decide +kernel
theorem dL_law_15 : decode cL_law 15 = .ok (.newarray .int, 2) := by decide +kernel
theorem dL_law_17 : decode cL_law 17 = .ok (.astore_n 3, 1) := by decide +kernel
theorem dL_law_18 : decode cL_law 18 = .ok (.bipush 8, 2) := by decide +kernel
theorem dL_law_20 : decode cL_law 20 = .ok (.newarray .int, 2) := by decide +kernel
theorem dL_law_22 : decode cL_law 22 = .ok (.astore 4, 2) := by decide +kernel
theorem dL_law_24 : decode cL_law 24 = .ok (.iconst 2, 1) := by decide +kernel
theorem dL_law_25 : decode cL_law 25 = .ok (.newarray .long, 2) := by decide +kernel
theorem dL_law_27 : decode cL_law 27 = .ok (.astore 5, 2) := by decide +kernel
theorem dL_law_29 : decode cL_law 29 = .ok (.bipush 64, 2) := by decide +kernel
theorem dL_law_31 : decode cL_law 31 = .ok (.newarray .long, 2) := by decide +kernel
theorem dL_law_33 : decode cL_law 33 = .ok (.astore 6, 2) := by decide +kernel
theorem dL_law_35 : decode cL_law 35 = .ok (.iconst 0, 1) := by decide +kernel
theorem dL_law_36 : decode cL_law 36 = .ok (.istore 7, 2) := by decide +kernel
theorem dL_law_38 : decode cL_law 38 = .ok (.iload 7, 2) := by decide +kernel
theorem dL_law_40 : decode cL_law 40 = .ok (.bipush 35, 2) := by decide +kernel
theorem dL_law_42 : decode cL_law 42 = .ok (.if_icmp .ge 27, 3) := by decide +kernel
theorem dL_law_45 : decode cL_law 45 = .ok (.aload_n 2, 1) := by decide +kernel
theorem dL_law_46 : decode cL_law 46 = .ok (.iload 7, 2) := by decide +kernel
theorem dL_law_48 : decode cL_law 48 = .ok (.iload 7, 2) := by decide +kernel
theorem dL_law_50 : decode cL_law 50 = .ok (.bipush 10, 2) := by decide +kernel
theorem dL_law_52 : decode cL_law 52 = .ok (.if_icmp .ge 8, 3) := by decide +kernel
theorem dL_law_55 : decode cL_law 55 = .ok (.bipush 10, 2) := by decide +kernel
theorem dL_law_57 : decode cL_law 57 = .ok (.goto 5, 3) := by decide +kernel
theorem dL_law_60 : decode cL_law 60 = .ok (.bipush 100, 2) := by decide +kernel
theorem dL_law_62 : decode cL_law 62 = .ok (.iastore, 1) := by decide +kernel
theorem dL_law_63 : decode cL_law 63 = .ok (.iinc 7 1, 3) := by decide +kernel
theorem dL_law_66 : decode cL_law 66 = .ok (.goto (-28), 3) := by decide +kernel
theorem dL_law_69 : decode cL_law 69 = .ok (.aload_n 2, 1) := by decide +kernel
theorem dL_law_70 : decode cL_law 70 = .ok (.bipush 35, 2) := by decide +kernel
theorem dL_law_72 : decode cL_law 72 = .ok (.sipush 200, 3) := by decide +kernel
theorem dL_law_75 : decode cL_law 75 = .ok (.iastore, 1) := by decide +kernel
theorem dL_law_76 : decode cL_law 76 = .ok (.iconst 0, 1) := by decide +kernel
theorem dL_law_77 : decode cL_law 77 = .ok (.istore 7, 2) := by decide +kernel
theorem dL_law_79 : decode cL_law 79 = .ok (.iload 7, 2) := by decide +kernel
theorem dL_law_81 : decode cL_law 81 = .ok (.bipush 50, 2) := by decide +kernel
theorem dL_law_83 : decode cL_law 83 = .ok (.if_icmp .ge 110, 3) := by decide +kernel
theorem dL_law_86 : decode cL_law 86 = .ok (.aload_n 0, 1) := by decide +kernel
theorem dL_law_87 : decode cL_law 87 = .ok (.iload 7, 2) := by decide +kernel
theorem dL_law_89 : decode cL_law 89 = .ok (.invokestatic 124, 3) := by decide +kernel
theorem dL_law_92 : decode cL_law 92 = .ok (.ldc 8, 2) := by decide +kernel
theorem dL_law_94 : decode cL_law 94 = .ok (.iand, 1) := by decide +kernel
theorem dL_law_95 : decode cL_law 95 = .ok (.istore 8, 2) := by decide +kernel
theorem dL_law_97 : decode cL_law 97 = .ok (.aload_n 1, 1) := by decide +kernel
theorem dL_law_98 : decode cL_law 98 = .ok (.aload_n 2, 1) := by decide +kernel
theorem dL_law_99 : decode cL_law 99 = .ok (.aload_n 3, 1) := by decide +kernel
theorem dL_law_100 : decode cL_law 100 = .ok (.aload 4, 2) := by decide +kernel
theorem dL_law_102 : decode cL_law 102 = .ok (.aload 5, 2) := by decide +kernel
theorem dL_law_104 : decode cL_law 104 = .ok (.aload 6, 2) := by decide +kernel
theorem dL_law_106 : decode cL_law 106 = .ok (.iload 8, 2) := by decide +kernel
theorem dL_law_108 : decode cL_law 108 = .ok (.bipush 16, 2) := by decide +kernel
theorem dL_law_110 : decode cL_law 110 = .ok (.irem, 1) := by decide +kernel
theorem dL_law_111 : decode cL_law 111 = .ok (.iload 8, 2) := by decide +kernel
theorem dL_law_113 : decode cL_law 113 = .ok (.bipush 16, 2) := by decide +kernel
theorem dL_law_115 : decode cL_law 115 = .ok (.idiv, 1) := by decide +kernel
theorem dL_law_116 : decode cL_law 116 = .ok (.invokestatic 128, 3) := by decide +kernel
theorem dL_law_119 : decode cL_law 119 = .ok (.ifCond .eq 66, 3) := by decide +kernel
theorem dL_law_122 : decode cL_law 122 = .ok (.aload_n 1, 1) := by decide +kernel
theorem dL_law_123 : decode cL_law 123 = .ok (.aload_n 2, 1) := by decide +kernel
theorem dL_law_124 : decode cL_law 124 = .ok (.aload_n 3, 1) := by decide +kernel
theorem dL_law_125 : decode cL_law 125 = .ok (.aload 4, 2) := by decide +kernel
theorem dL_law_127 : decode cL_law 127 = .ok (.aload 6, 2) := by decide +kernel
theorem dL_law_129 : decode cL_law 129 = .ok (.invokestatic 132, 3) := by decide +kernel
theorem dL_law_132 : decode cL_law 132 = .ok (.ifCond .eq 53, 3) := by decide +kernel
theorem dL_law_135 : decode cL_law 135 = .ok (.aload_n 1, 1) := by decide +kernel
theorem dL_law_136 : decode cL_law 136 = .ok (.aload_n 2, 1) := by decide +kernel
theorem dL_law_137 : decode cL_law 137 = .ok (.aload_n 3, 1) := by decide +kernel
theorem dL_law_138 : decode cL_law 138 = .ok (.aload 4, 2) := by decide +kernel
theorem dL_law_140 : decode cL_law 140 = .ok (.aload 5, 2) := by decide +kernel
theorem dL_law_142 : decode cL_law 142 = .ok (.iconst 1, 1) := by decide +kernel
theorem dL_law_143 : decode cL_law 143 = .ok (.iload 8, 2) := by decide +kernel
theorem dL_law_145 : decode cL_law 145 = .ok (.iconst 5, 1) := by decide +kernel
theorem dL_law_146 : decode cL_law 146 = .ok (.idiv, 1) := by decide +kernel
theorem dL_law_147 : decode cL_law 147 = .ok (.bipush 31, 2) := by decide +kernel
theorem dL_law_149 : decode cL_law 149 = .ok (.irem, 1) := by decide +kernel
theorem dL_law_150 : decode cL_law 150 = .ok (.iadd, 1) := by decide +kernel
theorem dL_law_151 : decode cL_law 151 = .ok (.invokestatic 136, 3) := by decide +kernel
theorem dL_law_154 : decode cL_law 154 = .ok (.ifCond .eq 31, 3) := by decide +kernel
theorem dL_law_157 : decode cL_law 157 = .ok (.iload 7, 2) := by decide +kernel
theorem dL_law_159 : decode cL_law 159 = .ok (.iconst 3, 1) := by decide +kernel
theorem dL_law_160 : decode cL_law 160 = .ok (.irem, 1) := by decide +kernel
theorem dL_law_161 : decode cL_law 161 = .ok (.iconst 1, 1) := by decide +kernel
theorem dL_law_162 : decode cL_law 162 = .ok (.if_icmp .ne 25, 3) := by decide +kernel
theorem dL_law_165 : decode cL_law 165 = .ok (.aload_n 1, 1) := by decide +kernel
theorem dL_law_166 : decode cL_law 166 = .ok (.aload_n 2, 1) := by decide +kernel
theorem dL_law_167 : decode cL_law 167 = .ok (.iconst 1, 1) := by decide +kernel
theorem dL_law_168 : decode cL_law 168 = .ok (.iload 8, 2) := by decide +kernel
theorem dL_law_170 : decode cL_law 170 = .ok (.bipush 7, 2) := by decide +kernel
theorem dL_law_172 : decode cL_law 172 = .ok (.idiv, 1) := by decide +kernel
theorem dL_law_173 : decode cL_law 173 = .ok (.bipush 31, 2) := by decide +kernel
theorem dL_law_175 : decode cL_law 175 = .ok (.irem, 1) := by decide +kernel
theorem dL_law_176 : decode cL_law 176 = .ok (.iadd, 1) := by decide +kernel
theorem dL_law_177 : decode cL_law 177 = .ok (.aload 6, 2) := by decide +kernel
theorem dL_law_179 : decode cL_law 179 = .ok (.invokestatic 140, 3) := by decide +kernel
theorem dL_law_182 : decode cL_law 182 = .ok (.ifCond .ne 5, 3) := by decide +kernel
theorem dL_law_185 : decode cL_law 185 = .ok (.iconst 0, 1) := by decide +kernel
theorem dL_law_186 : decode cL_law 186 = .ok (.ireturn, 1) := by decide +kernel
theorem dL_law_187 : decode cL_law 187 = .ok (.iinc 7 1, 3) := by decide +kernel
theorem dL_law_190 : decode cL_law 190 = .ok (.goto (-111), 3) := by decide +kernel
theorem dL_law_193 : decode cL_law 193 = .ok (.iconst 1, 1) := by decide +kernel
theorem dL_law_194 : decode cL_law 194 = .ok (.ireturn, 1) := by decide +kernel
