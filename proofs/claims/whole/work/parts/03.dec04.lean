theorem dX10_sayLongest_51 : decode cX10_sayLongest 51 = .ok (.iload 5, 2) := by decide +kernel
theorem dX10_sayLongest_53 : decode cX10_sayLongest 53 = .ok (.invokevirtual 274, 3) := by decide +kernel
theorem dX10_sayLongest_56 : decode cX10_sayLongest 56 = .ok (.if_icmp .eq 15, 3) := by decide +kernel
theorem dX10_sayLongest_59 : decode cX10_sayLongest 59 = .ok (.aload_n 0, 1) := by decide +kernel
theorem dX10_sayLongest_60 : decode cX10_sayLongest 60 = .ok (.getfield 62, 3) := by decide +kernel
theorem dX10_sayLongest_63 : decode cX10_sayLongest 63 = .ok (.iload 6, 2) := by decide +kernel
theorem dX10_sayLongest_65 : decode cX10_sayLongest 65 = .ok (.saload, 1) := by decide +kernel
theorem dX10_sayLongest_66 : decode cX10_sayLongest 66 = .ok (.istore 6, 2) := by decide +kernel
theorem dX10_sayLongest_68 : decode cX10_sayLongest 68 = .ok (.goto (-31), 3) := by decide +kernel
theorem dX10_sayLongest_71 : decode cX10_sayLongest 71 = .ok (.iload 6, 2) := by decide +kernel
theorem dX10_sayLongest_73 : decode cX10_sayLongest 73 = .ok (.ifCond .lt (-56), 3) := by decide +kernel
theorem dX10_sayLongest_76 : decode cX10_sayLongest 76 = .ok (.iload 6, 2) := by decide +kernel
theorem dX10_sayLongest_78 : decode cX10_sayLongest 78 = .ok (.istore 4, 2) := by decide +kernel
theorem dX10_sayLongest_80 : decode cX10_sayLongest 80 = .ok (.iinc 5 1, 3) := by decide +kernel
theorem dX10_sayLongest_83 : decode cX10_sayLongest 83 = .ok (.goto (-66), 3) := by decide +kernel
theorem dX10_sayLongest_86 : decode cX10_sayLongest 86 = .ok (.aload_n 0, 1) := by decide +kernel
theorem dX10_sayLongest_87 : decode cX10_sayLongest 87 = .ok (.getfield 183, 3) := by decide +kernel
theorem dX10_sayLongest_90 : decode cX10_sayLongest 90 = .ok (.ifCond .lt 92, 3) := by decide +kernel
theorem dX10_sayLongest_93 : decode cX10_sayLongest 93 = .ok (.aload_n 0, 1) := by decide +kernel
theorem dX10_sayLongest_94 : decode cX10_sayLongest 94 = .ok (.getfield 180, 3) := by decide +kernel
theorem dX10_sayLongest_97 : decode cX10_sayLongest 97 = .ok (.sipush 4096, 3) := by decide +kernel
theorem dX10_sayLongest_100 : decode cX10_sayLongest 100 = .ok (.if_icmp .ge 82, 3) := by decide +kernel
theorem dX10_sayLongest_103 : decode cX10_sayLongest 103 = .ok (.aload_n 0, 1) := by decide +kernel
theorem dX10_sayLongest_104 : decode cX10_sayLongest 104 = .ok (.getfield 53, 3) := by decide +kernel
theorem dX10_sayLongest_107 : decode cX10_sayLongest 107 = .ok (.aload_n 0, 1) := by decide +kernel
theorem dX10_sayLongest_108 : decode cX10_sayLongest 108 = .ok (.getfield 183, 3) := by decide +kernel
theorem dX10_sayLongest_111 : decode cX10_sayLongest 111 = .ok (.saload, 1) := by decide +kernel
theorem dX10_sayLongest_112 : decode cX10_sayLongest 112 = .ok (.iconst 1, 1) := by decide +kernel
theorem dX10_sayLongest_113 : decode cX10_sayLongest 113 = .ok (.iadd, 1) := by decide +kernel
theorem dX10_sayLongest_114 : decode cX10_sayLongest 114 = .ok (.iload 5, 2) := by decide +kernel
theorem dX10_sayLongest_116 : decode cX10_sayLongest 116 = .ok (.iload_n 2, 1) := by decide +kernel
theorem dX10_sayLongest_117 : decode cX10_sayLongest 117 = .ok (.isub, 1) := by decide +kernel
theorem dX10_sayLongest_118 : decode cX10_sayLongest 118 = .ok (.if_icmp .le 64, 3) := by decide +kernel
theorem dX10_sayLongest_121 : decode cX10_sayLongest 121 = .ok (.iload_n 2, 1) := by decide +kernel
theorem dX10_sayLongest_122 : decode cX10_sayLongest 122 = .ok (.aload_n 0, 1) := by decide +kernel
theorem dX10_sayLongest_123 : decode cX10_sayLongest 123 = .ok (.getfield 53, 3) := by decide +kernel
theorem dX10_sayLongest_126 : decode cX10_sayLongest 126 = .ok (.aload_n 0, 1) := by decide +kernel
theorem dX10_sayLongest_127 : decode cX10_sayLongest 127 = .ok (.getfield 183, 3) := by decide +kernel
theorem dX10_sayLongest_130 : decode cX10_sayLongest 130 = .ok (.saload, 1) := by decide +kernel
theorem dX10_sayLongest_131 : decode cX10_sayLongest 131 = .ok (.iadd, 1) := by decide +kernel
theorem dX10_sayLongest_132 : decode cX10_sayLongest 132 = .ok (.iload_n 3, 1) := by decide +kernel
theorem dX10_sayLongest_133 : decode cX10_sayLongest 133 = .ok (.if_icmp .ge 49, 3) := by decide +kernel
theorem dX10_sayLongest_136 : decode cX10_sayLongest 136 = .ok (.aload_n 0, 1) := by decide +kernel
theorem dX10_sayLongest_137 : decode cX10_sayLongest 137 = .ok (.aload_n 0, 1) := by decide +kernel
theorem dX10_sayLongest_138 : decode cX10_sayLongest 138 = .ok (.getfield 183, 3) := by decide +kernel
theorem dX10_sayLongest_141 : decode cX10_sayLongest 141 = .ok (.iload_n 1, 1) := by decide +kernel
theorem dX10_sayLongest_142 : decode cX10_sayLongest 142 = .ok (.iload_n 2, 1) := by decide +kernel
theorem dX10_sayLongest_143 : decode cX10_sayLongest 143 = .ok (.iload_n 3, 1) := by decide +kernel
theorem dX10_sayLongest_144 : decode cX10_sayLongest 144 = .ok (.invokevirtual 283, 3) := by decide +kernel
theorem dX10_sayLongest_147 : decode cX10_sayLongest 147 = .ok (.ifCond .eq 35, 3) := by decide +kernel
theorem dX10_sayLongest_150 : decode cX10_sayLongest 150 = .ok (.aload_n 0, 1) := by decide +kernel
theorem dX10_sayLongest_151 : decode cX10_sayLongest 151 = .ok (.iload_n 1, 1) := by decide +kernel
theorem dX10_sayLongest_152 : decode cX10_sayLongest 152 = .ok (.iload_n 2, 1) := by decide +kernel
theorem dX10_sayLongest_153 : decode cX10_sayLongest 153 = .ok (.aload_n 0, 1) := by decide +kernel
theorem dX10_sayLongest_154 : decode cX10_sayLongest 154 = .ok (.getfield 53, 3) := by decide +kernel
theorem dX10_sayLongest_157 : decode cX10_sayLongest 157 = .ok (.aload_n 0, 1) := by decide +kernel
theorem dX10_sayLongest_158 : decode cX10_sayLongest 158 = .ok (.getfield 183, 3) := by decide +kernel
theorem dX10_sayLongest_161 : decode cX10_sayLongest 161 = .ok (.saload, 1) := by decide +kernel
theorem dX10_sayLongest_162 : decode cX10_sayLongest 162 = .ok (.iadd, 1) := by decide +kernel
theorem dX10_sayLongest_163 : decode cX10_sayLongest 163 = .ok (.invokevirtual 274, 3) := by decide +kernel
theorem dX10_sayLongest_166 : decode cX10_sayLongest 166 = .ok (.aload_n 0, 1) := by decide +kernel
theorem dX10_sayLongest_167 : decode cX10_sayLongest 167 = .ok (.getfield 50, 3) := by decide +kernel
theorem dX10_sayLongest_170 : decode cX10_sayLongest 170 = .ok (.aload_n 0, 1) := by decide +kernel
theorem dX10_sayLongest_171 : decode cX10_sayLongest 171 = .ok (.getfield 183, 3) := by decide +kernel
theorem dX10_sayLongest_174 : decode cX10_sayLongest 174 = .ok (.saload, 1) := by decide +kernel
theorem dX10_sayLongest_175 : decode cX10_sayLongest 175 = .ok (.if_icmp .ne 7, 3) := by decide +kernel
theorem dX10_sayLongest_178 : decode cX10_sayLongest 178 = .ok (.iconst 1, 1) := by decide +kernel
theorem dX10_sayLongest_179 : decode cX10_sayLongest 179 = .ok (.goto 4, 3) := by decide +kernel
theorem dX10_sayLongest_182 : decode cX10_sayLongest 182 = .ok (.iconst 0, 1) := by decide +kernel
theorem dX10_sayLongest_183 : decode cX10_sayLongest 183 = .ok (.istore 7, 2) := by decide +kernel
theorem dX10_sayLongest_185 : decode cX10_sayLongest 185 = .ok (.iload 7, 2) := by decide +kernel
theorem dX10_sayLongest_187 : decode cX10_sayLongest 187 = .ok (.ifCond .eq 17, 3) := by decide +kernel
theorem dX10_sayLongest_190 : decode cX10_sayLongest 190 = .ok (.aload_n 0, 1) := by decide +kernel
theorem dX10_sayLongest_191 : decode cX10_sayLongest 191 = .ok (.getfield 53, 3) := by decide +kernel
theorem dX10_sayLongest_194 : decode cX10_sayLongest 194 = .ok (.aload_n 0, 1) := by decide +kernel
theorem dX10_sayLongest_195 : decode cX10_sayLongest 195 = .ok (.getfield 183, 3) := by decide +kernel
theorem dX10_sayLongest_198 : decode cX10_sayLongest 198 = .ok (.saload, 1) := by decide +kernel
theorem dX10_sayLongest_199 : decode cX10_sayLongest 199 = .ok (.iconst 1, 1) := by decide +kernel
theorem dX10_sayLongest_200 : decode cX10_sayLongest 200 = .ok (.iadd, 1) := by decide +kernel
theorem dX10_sayLongest_201 : decode cX10_sayLongest 201 = .ok (.goto 10, 3) := by decide +kernel
theorem dX10_sayLongest_204 : decode cX10_sayLongest 204 = .ok (.aload_n 0, 1) := by decide +kernel
theorem dX10_sayLongest_205 : decode cX10_sayLongest 205 = .ok (.getfield 53, 3) := by decide +kernel
theorem dX10_sayLongest_208 : decode cX10_sayLongest 208 = .ok (.iload 4, 2) := by decide +kernel
theorem dX10_sayLongest_210 : decode cX10_sayLongest 210 = .ok (.saload, 1) := by decide +kernel
theorem dX10_sayLongest_211 : decode cX10_sayLongest 211 = .ok (.istore 8, 2) := by decide +kernel
theorem dX10_sayLongest_213 : decode cX10_sayLongest 213 = .ok (.iload 7, 2) := by decide +kernel
theorem dX10_sayLongest_215 : decode cX10_sayLongest 215 = .ok (.ifCond .eq 15, 3) := by decide +kernel
theorem dX10_sayLongest_218 : decode cX10_sayLongest 218 = .ok (.aload_n 0, 1) := by decide +kernel
theorem dX10_sayLongest_219 : decode cX10_sayLongest 219 = .ok (.getfield 50, 3) := by decide +kernel
theorem dX10_sayLongest_222 : decode cX10_sayLongest 222 = .ok (.aload_n 0, 1) := by decide +kernel
theorem dX10_sayLongest_223 : decode cX10_sayLongest 223 = .ok (.getfield 183, 3) := by decide +kernel
theorem dX10_sayLongest_226 : decode cX10_sayLongest 226 = .ok (.saload, 1) := by decide +kernel
theorem dX10_sayLongest_227 : decode cX10_sayLongest 227 = .ok (.goto 10, 3) := by decide +kernel
theorem dX10_sayLongest_230 : decode cX10_sayLongest 230 = .ok (.aload_n 0, 1) := by decide +kernel
theorem dX10_sayLongest_231 : decode cX10_sayLongest 231 = .ok (.getfield 50, 3) := by decide +kernel
theorem dX10_sayLongest_234 : decode cX10_sayLongest 234 = .ok (.iload 4, 2) := by decide +kernel
theorem dX10_sayLongest_236 : decode cX10_sayLongest 236 = .ok (.saload, 1) := by decide +kernel
theorem dX10_sayLongest_237 : decode cX10_sayLongest 237 = .ok (.istore 9, 2) := by decide +kernel
theorem dX10_sayLongest_239 : decode cX10_sayLongest 239 = .ok (.iload 7, 2) := by decide +kernel
theorem dX10_sayLongest_241 : decode cX10_sayLongest 241 = .ok (.ifCond .eq 10, 3) := by decide +kernel
theorem dX10_sayLongest_244 : decode cX10_sayLongest 244 = .ok (.aload_n 0, 1) := by decide +kernel
theorem dX10_sayLongest_245 : decode cX10_sayLongest 245 = .ok (.getfield 180, 3) := by decide +kernel
theorem dX10_sayLongest_248 : decode cX10_sayLongest 248 = .ok (.goto 5, 3) := by decide +kernel
theorem dX10_sayLongest_251 : decode cX10_sayLongest 251 = .ok (.iload 4, 2) := by decide +kernel
theorem dX10_sayLongest_253 : decode cX10_sayLongest 253 = .ok (.istore 10, 2) := by decide +kernel
theorem dX10_sayLongest_255 : decode cX10_sayLongest 255 = .ok (.aload_n 0, 1) := by decide +kernel
theorem dX10_sayLongest_256 : decode cX10_sayLongest 256 = .ok (.iload 10, 2) := by decide +kernel
theorem dX10_sayLongest_258 : decode cX10_sayLongest 258 = .ok (.aload_n 0, 1) := by decide +kernel
theorem dX10_sayLongest_259 : decode cX10_sayLongest 259 = .ok (.getfield 177, 3) := by decide +kernel
theorem dX10_sayLongest_262 : decode cX10_sayLongest 262 = .ok (.invokevirtual 277, 3) := by decide +kernel
theorem dX10_sayLongest_265 : decode cX10_sayLongest 265 = .ok (.aload_n 0, 1) := by decide +kernel
theorem dX10_sayLongest_266 : decode cX10_sayLongest 266 = .ok (.getfield 183, 3) := by decide +kernel
theorem dX10_sayLongest_269 : decode cX10_sayLongest 269 = .ok (.ifCond .lt 61, 3) := by decide +kernel
theorem dX10_sayLongest_272 : decode cX10_sayLongest 272 = .ok (.aload_n 0, 1) := by decide +kernel
theorem dX10_sayLongest_273 : decode cX10_sayLongest 273 = .ok (.getfield 180, 3) := by decide +kernel
theorem dX10_sayLongest_276 : decode cX10_sayLongest 276 = .ok (.sipush 4096, 3) := by decide +kernel
theorem dX10_sayLongest_279 : decode cX10_sayLongest 279 = .ok (.if_icmp .ge 51, 3) := by decide +kernel
theorem dX10_sayLongest_282 : decode cX10_sayLongest 282 = .ok (.aload_n 0, 1) := by decide +kernel
theorem dX10_sayLongest_283 : decode cX10_sayLongest 283 = .ok (.getfield 59, 3) := by decide +kernel
theorem dX10_sayLongest_286 : decode cX10_sayLongest 286 = .ok (.aload_n 0, 1) := by decide +kernel
theorem dX10_sayLongest_287 : decode cX10_sayLongest 287 = .ok (.getfield 180, 3) := by decide +kernel
theorem dX10_sayLongest_290 : decode cX10_sayLongest 290 = .ok (.iconst (-1), 1) := by decide +kernel
theorem dX10_sayLongest_291 : decode cX10_sayLongest 291 = .ok (.sastore, 1) := by decide +kernel
theorem dX10_sayLongest_292 : decode cX10_sayLongest 292 = .ok (.aload_n 0, 1) := by decide +kernel
theorem dX10_sayLongest_293 : decode cX10_sayLongest 293 = .ok (.getfield 62, 3) := by decide +kernel
theorem dX10_sayLongest_296 : decode cX10_sayLongest 296 = .ok (.aload_n 0, 1) := by decide +kernel
theorem dX10_sayLongest_297 : decode cX10_sayLongest 297 = .ok (.getfield 180, 3) := by decide +kernel
theorem dX10_sayLongest_300 : decode cX10_sayLongest 300 = .ok (.aload_n 0, 1) := by decide +kernel
theorem dX10_sayLongest_301 : decode cX10_sayLongest 301 = .ok (.getfield 59, 3) := by decide +kernel
theorem dX10_sayLongest_304 : decode cX10_sayLongest 304 = .ok (.aload_n 0, 1) := by decide +kernel
theorem dX10_sayLongest_305 : decode cX10_sayLongest 305 = .ok (.getfield 183, 3) := by decide +kernel
theorem dX10_sayLongest_308 : decode cX10_sayLongest 308 = .ok (.saload, 1) := by decide +kernel
theorem dX10_sayLongest_309 : decode cX10_sayLongest 309 = .ok (.sastore, 1) := by decide +kernel
theorem dX10_sayLongest_310 : decode cX10_sayLongest 310 = .ok (.aload_n 0, 1) := by decide +kernel
theorem dX10_sayLongest_311 : decode cX10_sayLongest 311 = .ok (.getfield 59, 3) := by decide +kernel
theorem dX10_sayLongest_314 : decode cX10_sayLongest 314 = .ok (.aload_n 0, 1) := by decide +kernel
theorem dX10_sayLongest_315 : decode cX10_sayLongest 315 = .ok (.getfield 183, 3) := by decide +kernel
theorem dX10_sayLongest_318 : decode cX10_sayLongest 318 = .ok (.aload_n 0, 1) := by decide +kernel
theorem dX10_sayLongest_319 : decode cX10_sayLongest 319 = .ok (.getfield 180, 3) := by decide +kernel
theorem dX10_sayLongest_322 : decode cX10_sayLongest 322 = .ok (.i2s, 1) := by decide +kernel
theorem dX10_sayLongest_323 : decode cX10_sayLongest 323 = .ok (.sastore, 1) := by decide +kernel
theorem dX10_sayLongest_324 : decode cX10_sayLongest 324 = .ok (.aload_n 0, 1) := by decide +kernel
theorem dX10_sayLongest_325 : decode cX10_sayLongest 325 = .ok (.iload 9, 2) := by decide +kernel
theorem dX10_sayLongest_327 : decode cX10_sayLongest 327 = .ok (.invokevirtual 209, 3) := by decide +kernel
theorem dX10_sayLongest_330 : decode cX10_sayLongest 330 = .ok (.aload_n 0, 1) := by decide +kernel
theorem dX10_sayLongest_331 : decode cX10_sayLongest 331 = .ok (.iload 10, 2) := by decide +kernel
theorem dX10_sayLongest_333 : decode cX10_sayLongest 333 = .ok (.putfield 183, 3) := by decide +kernel
theorem dX10_sayLongest_336 : decode cX10_sayLongest 336 = .ok (.iload_n 2, 1) := by decide +kernel
theorem dX10_sayLongest_337 : decode cX10_sayLongest 337 = .ok (.iload 8, 2) := by decide +kernel
theorem dX10_sayLongest_339 : decode cX10_sayLongest 339 = .ok (.iadd, 1) := by decide +kernel
theorem dX10_sayLongest_340 : decode cX10_sayLongest 340 = .ok (.ireturn, 1) := by decide +kernel
theorem dX10_out_0 : decode cX10_out 0 = .ok (.iload_n 1, 1) := by decide +kernel
theorem dX10_out_1 : decode cX10_out 1 = .ok (.ifCond .lt 24, 3) := by decide +kernel
theorem dX10_out_4 : decode cX10_out 4 = .ok (.iload_n 1, 1) := by decide +kernel
theorem dX10_out_5 : decode cX10_out 5 = .ok (.aload_n 0, 1) := by decide +kernel
theorem dX10_out_6 : decode cX10_out 6 = .ok (.getfield 83, 3) := by decide +kernel
theorem dX10_out_9 : decode cX10_out 9 = .ok (.if_icmp .ge 16, 3) := by decide +kernel
theorem dX10_out_12 : decode cX10_out 12 = .ok (.aload_n 0, 1) := by decide +kernel
theorem dX10_out_13 : decode cX10_out 13 = .ok (.getfield 13, 3) := by decide +kernel
theorem dX10_out_16 : decode cX10_out 16 = .ok (.iload_n 1, 1) := by decide +kernel
theorem dX10_out_17 : decode cX10_out 17 = .ok (.baload, 1) := by decide +kernel
theorem dX10_out_18 : decode cX10_out 18 = .ok (.sipush 255, 3) := by decide +kernel
theorem dX10_out_21 : decode cX10_out 21 = .ok (.iand, 1) := by decide +kernel
theorem dX10_out_22 : decode cX10_out 22 = .ok (.goto 4, 3) := by decide +kernel
theorem dX10_out_25 : decode cX10_out 25 = .ok (.iconst (-1), 1) := by decide +kernel
theorem dX10_out_26 : decode cX10_out 26 = .ok (.ireturn, 1) := by decide +kernel
theorem dX10_about_0 : decode cX10_about 0 = .ok (.iload_n 1, 1) := by decide +kernel
theorem dX10_about_1 : decode cX10_about 1 = .ok (.bipush 6, 2) := by decide +kernel
theorem dX10_about_3 : decode cX10_about 3 = .ok (.if_icmp .ne 8, 3) := by decide +kernel
theorem dX10_about_6 : decode cX10_about 6 = .ok (.aload_n 0, 1) := by decide +kernel
theorem dX10_about_7 : decode cX10_about 7 = .ok (.getfield 76, 3) := by decide +kernel
theorem dX10_about_10 : decode cX10_about 10 = .ok (.ireturn, 1) := by decide +kernel
theorem dX10_about_11 : decode cX10_about 11 = .ok (.iload_n 1, 1) := by decide +kernel
theorem dX10_about_12 : decode cX10_about 12 = .ok (.bipush 7, 2) := by decide +kernel
theorem dX10_about_14 : decode cX10_about 14 = .ok (.if_icmp .ne 8, 3) := by decide +kernel
theorem dX10_about_17 : decode cX10_about 17 = .ok (.aload_n 0, 1) := by decide +kernel
theorem dX10_about_18 : decode cX10_about 18 = .ok (.getfield 83, 3) := by decide +kernel
theorem dX10_about_21 : decode cX10_about 21 = .ok (.ireturn, 1) := by decide +kernel
theorem dX10_about_22 : decode cX10_about 22 = .ok (.iload_n 1, 1) := by decide +kernel
theorem dX10_about_23 : decode cX10_about 23 = .ok (.ifCond .lt 26, 3) := by decide +kernel
theorem dX10_about_26 : decode cX10_about 26 = .ok (.iload_n 1, 1) := by decide +kernel
theorem dX10_about_27 : decode cX10_about 27 = .ok (.bipush 6, 2) := by decide +kernel
theorem dX10_about_29 : decode cX10_about 29 = .ok (.if_icmp .ge 20, 3) := by decide +kernel
theorem dX10_about_32 : decode cX10_about 32 = .ok (.aload_n 0, 1) := by decide +kernel
theorem dX10_about_33 : decode cX10_about 33 = .ok (.getfield 23, 3) := by decide +kernel
theorem dX10_about_36 : decode cX10_about 36 = .ok (.bipush 6, 2) := by decide +kernel
theorem dX10_about_38 : decode cX10_about 38 = .ok (.aload_n 0, 1) := by decide +kernel
theorem dX10_about_39 : decode cX10_about 39 = .ok (.getfield 66, 3) := by decide +kernel
theorem dX10_about_42 : decode cX10_about 42 = .ok (.imul, 1) := by decide +kernel
theorem dX10_about_43 : decode cX10_about 43 = .ok (.iload_n 1, 1) := by decide +kernel
theorem dX10_about_44 : decode cX10_about 44 = .ok (.iadd, 1) := by decide +kernel
theorem dX10_about_45 : decode cX10_about 45 = .ok (.iaload, 1) := by decide +kernel
theorem dX10_about_46 : decode cX10_about 46 = .ok (.goto 4, 3) := by decide +kernel
theorem dX10_about_49 : decode cX10_about 49 = .ok (.iconst (-1), 1) := by decide +kernel
theorem dX10_about_50 : decode cX10_about 50 = .ok (.ireturn, 1) := by decide +kernel
theorem dX10_frameOf_0 : decode cX10_frameOf 0 = .ok (.aload_n 0, 1) := by decide +kernel
theorem dX10_frameOf_1 : decode cX10_frameOf 1 = .ok (.iload_n 1, 1) := by decide +kernel
theorem dX10_frameOf_2 : decode cX10_frameOf 2 = .ok (.invokevirtual 229, 3) := by decide +kernel
theorem dX10_frameOf_5 : decode cX10_frameOf 5 = .ok (.ifCond .eq 26, 3) := by decide +kernel
theorem dX10_frameOf_8 : decode cX10_frameOf 8 = .ok (.iload_n 2, 1) := by decide +kernel
theorem dX10_frameOf_9 : decode cX10_frameOf 9 = .ok (.ifCond .lt 22, 3) := by decide +kernel
theorem dX10_frameOf_12 : decode cX10_frameOf 12 = .ok (.iload_n 2, 1) := by decide +kernel
theorem dX10_frameOf_13 : decode cX10_frameOf 13 = .ok (.bipush 10, 2) := by decide +kernel
theorem dX10_frameOf_15 : decode cX10_frameOf 15 = .ok (.if_icmp .ge 16, 3) := by decide +kernel
theorem dX10_frameOf_18 : decode cX10_frameOf 18 = .ok (.aload_n 0, 1) := by decide +kernel
theorem dX10_frameOf_19 : decode cX10_frameOf 19 = .ok (.aload_n 0, 1) := by decide +kernel
theorem dX10_frameOf_20 : decode cX10_frameOf 20 = .ok (.getfield 66, 3) := by decide +kernel
theorem dX10_frameOf_23 : decode cX10_frameOf 23 = .ok (.iload_n 1, 1) := by decide +kernel
theorem dX10_frameOf_24 : decode cX10_frameOf 24 = .ok (.iload_n 2, 1) := by decide +kernel
theorem dX10_frameOf_25 : decode cX10_frameOf 25 = .ok (.invokevirtual 73, 3) := by decide +kernel
theorem dX10_frameOf_28 : decode cX10_frameOf 28 = .ok (.goto 4, 3) := by decide +kernel
theorem dX10_frameOf_31 : decode cX10_frameOf 31 = .ok (.iconst (-1), 1) := by decide +kernel
theorem dX10_frameOf_32 : decode cX10_frameOf 32 = .ok (.ireturn, 1) := by decide +kernel
theorem dX10_colourOf_0 : decode cX10_colourOf 0 = .ok (.aload_n 0, 1) := by decide +kernel
theorem dX10_colourOf_1 : decode cX10_colourOf 1 = .ok (.iload_n 1, 1) := by decide +kernel
theorem dX10_colourOf_2 : decode cX10_colourOf 2 = .ok (.iload_n 2, 1) := by decide +kernel
theorem dX10_colourOf_3 : decode cX10_colourOf 3 = .ok (.invokevirtual 232, 3) := by decide +kernel
theorem dX10_colourOf_6 : decode cX10_colourOf 6 = .ok (.ifCond .ne 5, 3) := by decide +kernel
theorem dX10_colourOf_9 : decode cX10_colourOf 9 = .ok (.iconst (-1), 1) := by decide +kernel
theorem dX10_colourOf_10 : decode cX10_colourOf 10 = .ok (.ireturn, 1) := by decide +kernel
theorem dX10_colourOf_11 : decode cX10_colourOf 11 = .ok (.iload_n 1, 1) := by decide +kernel
theorem dX10_colourOf_12 : decode cX10_colourOf 12 = .ok (.iconst (-1), 1) := by decide +kernel
theorem dX10_colourOf_13 : decode cX10_colourOf 13 = .ok (.if_icmp .ne 21, 3) := by decide +kernel
theorem dX10_colourOf_16 : decode cX10_colourOf 16 = .ok (.aload_n 0, 1) := by decide +kernel
theorem dX10_colourOf_17 : decode cX10_colourOf 17 = .ok (.getfield 27, 3) := by decide +kernel
theorem dX10_colourOf_20 : decode cX10_colourOf 20 = .ok (.sipush 256, 3) := by decide +kernel
theorem dX10_colourOf_23 : decode cX10_colourOf 23 = .ok (.aload_n 0, 1) := by decide +kernel
theorem dX10_colourOf_24 : decode cX10_colourOf 24 = .ok (.getfield 66, 3) := by decide +kernel
theorem dX10_colourOf_27 : decode cX10_colourOf 27 = .ok (.imul, 1) := by decide +kernel
theorem dX10_colourOf_28 : decode cX10_colourOf 28 = .ok (.iload_n 2, 1) := by decide +kernel
theorem dX10_colourOf_29 : decode cX10_colourOf 29 = .ok (.iadd, 1) := by decide +kernel
theorem dX10_colourOf_30 : decode cX10_colourOf 30 = .ok (.iaload, 1) := by decide +kernel
theorem dX10_colourOf_31 : decode cX10_colourOf 31 = .ok (.goto 17, 3) := by decide +kernel
theorem dX10_colourOf_34 : decode cX10_colourOf 34 = .ok (.aload_n 0, 1) := by decide +kernel
theorem dX10_colourOf_35 : decode cX10_colourOf 35 = .ok (.getfield 33, 3) := by decide +kernel
theorem dX10_colourOf_38 : decode cX10_colourOf 38 = .ok (.aload_n 0, 1) := by decide +kernel
theorem dX10_colourOf_39 : decode cX10_colourOf 39 = .ok (.getfield 66, 3) := by decide +kernel
theorem dX10_colourOf_42 : decode cX10_colourOf 42 = .ok (.iload_n 1, 1) := by decide +kernel
theorem dX10_colourOf_43 : decode cX10_colourOf 43 = .ok (.iload_n 2, 1) := by decide +kernel
theorem dX10_colourOf_44 : decode cX10_colourOf 44 = .ok (.invokestatic 160, 3) := by decide +kernel
theorem dX10_colourOf_47 : decode cX10_colourOf 47 = .ok (.iaload, 1) := by decide +kernel
theorem dX10_colourOf_48 : decode cX10_colourOf 48 = .ok (.ireturn, 1) := by decide +kernel
theorem dX10_index_0 : decode cX10_index 0 = .ok (.aload_n 0, 1) := by decide +kernel
theorem dX10_index_1 : decode cX10_index 1 = .ok (.iload_n 1, 1) := by decide +kernel
theorem dX10_index_2 : decode cX10_index 2 = .ok (.invokevirtual 229, 3) := by decide +kernel
theorem dX10_index_5 : decode cX10_index 5 = .ok (.ifCond .eq 33, 3) := by decide +kernel
theorem dX10_index_8 : decode cX10_index 8 = .ok (.iload_n 2, 1) := by decide +kernel
theorem dX10_index_9 : decode cX10_index 9 = .ok (.ifCond .lt 29, 3) := by decide +kernel
theorem dX10_index_12 : decode cX10_index 12 = .ok (.iload_n 2, 1) := by decide +kernel
theorem dX10_index_13 : decode cX10_index 13 = .ok (.aload_n 0, 1) := by decide +kernel
theorem dX10_index_14 : decode cX10_index 14 = .ok (.aload_n 0, 1) := by decide +kernel
theorem dX10_index_15 : decode cX10_index 15 = .ok (.getfield 66, 3) := by decide +kernel
theorem dX10_index_18 : decode cX10_index 18 = .ok (.iload_n 1, 1) := by decide +kernel
theorem dX10_index_19 : decode cX10_index 19 = .ok (.invokevirtual 189, 3) := by decide +kernel
theorem dX10_index_22 : decode cX10_index 22 = .ok (.if_icmp .ge 16, 3) := by decide +kernel
theorem dX10_index_25 : decode cX10_index 25 = .ok (.aload_n 0, 1) := by decide +kernel
theorem dX10_index_26 : decode cX10_index 26 = .ok (.aload_n 0, 1) := by decide +kernel
theorem dX10_index_27 : decode cX10_index 27 = .ok (.getfield 66, 3) := by decide +kernel
theorem dX10_index_30 : decode cX10_index 30 = .ok (.iload_n 1, 1) := by decide +kernel
theorem dX10_index_31 : decode cX10_index 31 = .ok (.iload_n 2, 1) := by decide +kernel
theorem dX10_index_32 : decode cX10_index 32 = .ok (.invokevirtual 271, 3) := by decide +kernel
theorem dX10_index_35 : decode cX10_index 35 = .ok (.goto 4, 3) := by decide +kernel
theorem dX10_index_38 : decode cX10_index 38 = .ok (.iconst (-1), 1) := by decide +kernel
theorem dX10_index_39 : decode cX10_index 39 = .ok (.ireturn, 1) := by decide +kernel
theorem dX10_covers_0 : decode cX10_covers 0 = .ok (.iload_n 2, 1) := by decide +kernel
theorem dX10_covers_1 : decode cX10_covers 1 = .ok (.aload_n 0, 1) := by decide +kernel
theorem dX10_covers_2 : decode cX10_covers 2 = .ok (.aload_n 0, 1) := by decide +kernel
theorem dX10_covers_3 : decode cX10_covers 3 = .ok (.getfield 66, 3) := by decide +kernel
theorem dX10_covers_6 : decode cX10_covers 6 = .ok (.iload_n 1, 1) := by decide +kernel
theorem dX10_covers_7 : decode cX10_covers 7 = .ok (.iconst 0, 1) := by decide +kernel
theorem dX10_covers_8 : decode cX10_covers 8 = .ok (.invokevirtual 73, 3) := by decide +kernel
theorem dX10_covers_11 : decode cX10_covers 11 = .ok (.isub, 1) := by decide +kernel
theorem dX10_covers_12 : decode cX10_covers 12 = .ok (.istore 4, 2) := by decide +kernel
theorem dX10_covers_14 : decode cX10_covers 14 = .ok (.iload_n 3, 1) := by decide +kernel
theorem dX10_covers_15 : decode cX10_covers 15 = .ok (.aload_n 0, 1) := by decide +kernel
theorem dX10_covers_16 : decode cX10_covers 16 = .ok (.aload_n 0, 1) := by decide +kernel
theorem dX10_covers_17 : decode cX10_covers 17 = .ok (.getfield 66, 3) := by decide +kernel
theorem dX10_covers_20 : decode cX10_covers 20 = .ok (.iload_n 1, 1) := by decide +kernel
theorem dX10_covers_21 : decode cX10_covers 21 = .ok (.iconst 1, 1) := by decide +kernel
theorem dX10_covers_22 : decode cX10_covers 22 = .ok (.invokevirtual 73, 3) := by decide +kernel
theorem dX10_covers_25 : decode cX10_covers 25 = .ok (.isub, 1) := by decide +kernel
theorem dX10_covers_26 : decode cX10_covers 26 = .ok (.istore 5, 2) := by decide +kernel
theorem dX10_covers_28 : decode cX10_covers 28 = .ok (.aload_n 0, 1) := by decide +kernel
theorem dX10_covers_29 : decode cX10_covers 29 = .ok (.aload_n 0, 1) := by decide +kernel
theorem dX10_covers_30 : decode cX10_covers 30 = .ok (.getfield 66, 3) := by decide +kernel
theorem dX10_covers_33 : decode cX10_covers 33 = .ok (.iload_n 1, 1) := by decide +kernel
theorem dX10_covers_34 : decode cX10_covers 34 = .ok (.iconst 2, 1) := by decide +kernel
theorem dX10_covers_35 : decode cX10_covers 35 = .ok (.invokevirtual 73, 3) := by decide +kernel
theorem dX10_covers_38 : decode cX10_covers 38 = .ok (.istore 6, 2) := by decide +kernel
theorem dX10_covers_40 : decode cX10_covers 40 = .ok (.iload 4, 2) := by decide +kernel
theorem dX10_covers_42 : decode cX10_covers 42 = .ok (.ifCond .lt 30, 3) := by decide +kernel
theorem dX10_covers_45 : decode cX10_covers 45 = .ok (.iload 5, 2) := by decide +kernel
theorem dX10_covers_47 : decode cX10_covers 47 = .ok (.ifCond .lt 25, 3) := by decide +kernel
theorem dX10_covers_50 : decode cX10_covers 50 = .ok (.iload 4, 2) := by decide +kernel
theorem dX10_covers_52 : decode cX10_covers 52 = .ok (.iload 6, 2) := by decide +kernel
theorem dX10_covers_54 : decode cX10_covers 54 = .ok (.if_icmp .ge 18, 3) := by decide +kernel
theorem dX10_covers_57 : decode cX10_covers 57 = .ok (.iload 5, 2) := by decide +kernel
theorem dX10_covers_59 : decode cX10_covers 59 = .ok (.aload_n 0, 1) := by decide +kernel
theorem dX10_covers_60 : decode cX10_covers 60 = .ok (.aload_n 0, 1) := by decide +kernel
theorem dX10_covers_61 : decode cX10_covers 61 = .ok (.getfield 66, 3) := by decide +kernel
theorem dX10_covers_64 : decode cX10_covers 64 = .ok (.iload_n 1, 1) := by decide +kernel
theorem dX10_covers_65 : decode cX10_covers 65 = .ok (.iconst 3, 1) := by decide +kernel
theorem dX10_covers_66 : decode cX10_covers 66 = .ok (.invokevirtual 73, 3) := by decide +kernel
theorem dX10_covers_69 : decode cX10_covers 69 = .ok (.if_icmp .lt 5, 3) := by decide +kernel
theorem dX10_covers_72 : decode cX10_covers 72 = .ok (.iconst (-1), 1) := by decide +kernel
theorem dX10_covers_73 : decode cX10_covers 73 = .ok (.ireturn, 1) := by decide +kernel
theorem dX10_covers_74 : decode cX10_covers 74 = .ok (.aload_n 0, 1) := by decide +kernel
theorem dX10_covers_75 : decode cX10_covers 75 = .ok (.aload_n 0, 1) := by decide +kernel
theorem dX10_covers_76 : decode cX10_covers 76 = .ok (.getfield 66, 3) := by decide +kernel
theorem dX10_covers_79 : decode cX10_covers 79 = .ok (.iload_n 1, 1) := by decide +kernel
theorem dX10_covers_80 : decode cX10_covers 80 = .ok (.iload 6, 2) := by decide +kernel
theorem dX10_covers_82 : decode cX10_covers 82 = .ok (.iload 5, 2) := by decide +kernel
theorem dX10_covers_84 : decode cX10_covers 84 = .ok (.imul, 1) := by decide +kernel
theorem dX10_covers_85 : decode cX10_covers 85 = .ok (.iload 4, 2) := by decide +kernel
theorem dX10_covers_87 : decode cX10_covers 87 = .ok (.iadd, 1) := by decide +kernel
theorem dX10_covers_88 : decode cX10_covers 88 = .ok (.invokevirtual 271, 3) := by decide +kernel
theorem dX10_covers_91 : decode cX10_covers 91 = .ok (.ireturn, 1) := by decide +kernel
theorem dX10_canvas_0 : decode cX10_canvas 0 = .ok (.aload_n 0, 1) := by decide +kernel
theorem dX10_canvas_1 : decode cX10_canvas 1 = .ok (.iload_n 1, 1) := by decide +kernel
theorem dX10_canvas_2 : decode cX10_canvas 2 = .ok (.invokevirtual 229, 3) := by decide +kernel
theorem dX10_canvas_5 : decode cX10_canvas 5 = .ok (.ifCond .eq 49, 3) := by decide +kernel
theorem dX10_canvas_8 : decode cX10_canvas 8 = .ok (.iload_n 2, 1) := by decide +kernel
theorem dX10_canvas_9 : decode cX10_canvas 9 = .ok (.iconst 0, 1) := by decide +kernel
theorem dX10_canvas_10 : decode cX10_canvas 10 = .ok (.aload_n 0, 1) := by decide +kernel
theorem dX10_canvas_11 : decode cX10_canvas 11 = .ok (.getfield 23, 3) := by decide +kernel
theorem dX10_canvas_14 : decode cX10_canvas 14 = .ok (.bipush 6, 2) := by decide +kernel
theorem dX10_canvas_16 : decode cX10_canvas 16 = .ok (.aload_n 0, 1) := by decide +kernel
theorem dX10_canvas_17 : decode cX10_canvas 17 = .ok (.getfield 66, 3) := by decide +kernel
theorem dX10_canvas_20 : decode cX10_canvas 20 = .ok (.imul, 1) := by decide +kernel
theorem dX10_canvas_21 : decode cX10_canvas 21 = .ok (.iaload, 1) := by decide +kernel
theorem dX10_canvas_22 : decode cX10_canvas 22 = .ok (.iconst 1, 1) := by decide +kernel
theorem dX10_canvas_23 : decode cX10_canvas 23 = .ok (.isub, 1) := by decide +kernel
theorem dX10_canvas_24 : decode cX10_canvas 24 = .ok (.invokestatic 221, 3) := by decide +kernel
theorem dX10_canvas_27 : decode cX10_canvas 27 = .ok (.ifCond .eq 27, 3) := by decide +kernel
theorem dX10_canvas_30 : decode cX10_canvas 30 = .ok (.iload_n 3, 1) := by decide +kernel
theorem dX10_canvas_31 : decode cX10_canvas 31 = .ok (.iconst 0, 1) := by decide +kernel
theorem dX10_canvas_32 : decode cX10_canvas 32 = .ok (.aload_n 0, 1) := by decide +kernel
theorem dX10_canvas_33 : decode cX10_canvas 33 = .ok (.getfield 23, 3) := by decide +kernel
theorem dX10_canvas_36 : decode cX10_canvas 36 = .ok (.bipush 6, 2) := by decide +kernel
theorem dX10_canvas_38 : decode cX10_canvas 38 = .ok (.aload_n 0, 1) := by decide +kernel
theorem dX10_canvas_39 : decode cX10_canvas 39 = .ok (.getfield 66, 3) := by decide +kernel
theorem dX10_canvas_42 : decode cX10_canvas 42 = .ok (.imul, 1) := by decide +kernel
theorem dX10_canvas_43 : decode cX10_canvas 43 = .ok (.iconst 1, 1) := by decide +kernel
theorem dX10_canvas_44 : decode cX10_canvas 44 = .ok (.iadd, 1) := by decide +kernel
theorem dX10_canvas_45 : decode cX10_canvas 45 = .ok (.iaload, 1) := by decide +kernel
theorem dX10_canvas_46 : decode cX10_canvas 46 = .ok (.iconst 1, 1) := by decide +kernel
theorem dX10_canvas_47 : decode cX10_canvas 47 = .ok (.isub, 1) := by decide +kernel
theorem dX10_canvas_48 : decode cX10_canvas 48 = .ok (.invokestatic 221, 3) := by decide +kernel
theorem dX10_canvas_51 : decode cX10_canvas 51 = .ok (.ifCond .ne 6, 3) := by decide +kernel
theorem dX10_canvas_54 : decode cX10_canvas 54 = .ok (.bipush (-2), 2) := by decide +kernel
theorem dX10_canvas_56 : decode cX10_canvas 56 = .ok (.ireturn, 1) := by decide +kernel
theorem dX10_canvas_57 : decode cX10_canvas 57 = .ok (.aload_n 0, 1) := by decide +kernel
theorem dX10_canvas_58 : decode cX10_canvas 58 = .ok (.getfield 23, 3) := by decide +kernel
theorem dX10_canvas_61 : decode cX10_canvas 61 = .ok (.bipush 6, 2) := by decide +kernel
theorem dX10_canvas_63 : decode cX10_canvas 63 = .ok (.aload_n 0, 1) := by decide +kernel
theorem dX10_canvas_64 : decode cX10_canvas 64 = .ok (.getfield 66, 3) := by decide +kernel
theorem dX10_canvas_67 : decode cX10_canvas 67 = .ok (.imul, 1) := by decide +kernel
theorem dX10_canvas_68 : decode cX10_canvas 68 = .ok (.iconst 3, 1) := by decide +kernel
theorem dX10_canvas_69 : decode cX10_canvas 69 = .ok (.iadd, 1) := by decide +kernel
theorem dX10_canvas_70 : decode cX10_canvas 70 = .ok (.iaload, 1) := by decide +kernel
theorem dX10_canvas_71 : decode cX10_canvas 71 = .ok (.aload_n 0, 1) := by decide +kernel
theorem dX10_canvas_72 : decode cX10_canvas 72 = .ok (.getfield 23, 3) := by decide +kernel
theorem dX10_canvas_75 : decode cX10_canvas 75 = .ok (.bipush 6, 2) := by decide +kernel
theorem dX10_canvas_77 : decode cX10_canvas 77 = .ok (.aload_n 0, 1) := by decide +kernel
theorem dX10_canvas_78 : decode cX10_canvas 78 = .ok (.getfield 66, 3) := by decide +kernel
theorem dX10_canvas_81 : decode cX10_canvas 81 = .ok (.imul, 1) := by decide +kernel
theorem dX10_canvas_82 : decode cX10_canvas 82 = .ok (.iconst 2, 1) := by decide +kernel
theorem dX10_canvas_83 : decode cX10_canvas 83 = .ok (.iadd, 1) := by decide +kernel
theorem dX10_canvas_84 : decode cX10_canvas 84 = .ok (.iaload, 1) := by decide +kernel
theorem dX10_canvas_85 : decode cX10_canvas 85 = .ok (.if_icmp .ge 34, 3) := by decide +kernel
theorem dX10_canvas_88 : decode cX10_canvas 88 = .ok (.aload_n 0, 1) := by decide +kernel
theorem dX10_canvas_89 : decode cX10_canvas 89 = .ok (.getfield 27, 3) := by decide +kernel
theorem dX10_canvas_92 : decode cX10_canvas 92 = .ok (.sipush 256, 3) := by decide +kernel
theorem dX10_canvas_95 : decode cX10_canvas 95 = .ok (.aload_n 0, 1) := by decide +kernel
theorem dX10_canvas_96 : decode cX10_canvas 96 = .ok (.getfield 66, 3) := by decide +kernel
theorem dX10_canvas_99 : decode cX10_canvas 99 = .ok (.imul, 1) := by decide +kernel
theorem dX10_canvas_100 : decode cX10_canvas 100 = .ok (.aload_n 0, 1) := by decide +kernel
theorem dX10_canvas_101 : decode cX10_canvas 101 = .ok (.getfield 23, 3) := by decide +kernel
theorem dX10_canvas_104 : decode cX10_canvas 104 = .ok (.bipush 6, 2) := by decide +kernel
theorem dX10_canvas_106 : decode cX10_canvas 106 = .ok (.aload_n 0, 1) := by decide +kernel
theorem dX10_canvas_107 : decode cX10_canvas 107 = .ok (.getfield 66, 3) := by decide +kernel
theorem dX10_canvas_110 : decode cX10_canvas 110 = .ok (.imul, 1) := by decide +kernel
theorem dX10_canvas_111 : decode cX10_canvas 111 = .ok (.iconst 3, 1) := by decide +kernel
theorem dX10_canvas_112 : decode cX10_canvas 112 = .ok (.iadd, 1) := by decide +kernel
theorem dX10_canvas_113 : decode cX10_canvas 113 = .ok (.iaload, 1) := by decide +kernel
theorem dX10_canvas_114 : decode cX10_canvas 114 = .ok (.iadd, 1) := by decide +kernel
theorem dX10_canvas_115 : decode cX10_canvas 115 = .ok (.iaload, 1) := by decide +kernel
theorem dX10_canvas_116 : decode cX10_canvas 116 = .ok (.goto 4, 3) := by decide +kernel
theorem dX10_canvas_119 : decode cX10_canvas 119 = .ok (.iconst (-1), 1) := by decide +kernel
theorem dX10_canvas_120 : decode cX10_canvas 120 = .ok (.istore 4, 2) := by decide +kernel
theorem dX10_canvas_122 : decode cX10_canvas 122 = .ok (.iload 4, 2) := by decide +kernel
theorem dX10_canvas_124 : decode cX10_canvas 124 = .ok (.istore 5, 2) := by decide +kernel
theorem dX10_canvas_126 : decode cX10_canvas 126 = .ok (.iload 4, 2) := by decide +kernel
theorem dX10_canvas_128 : decode cX10_canvas 128 = .ok (.istore 6, 2) := by decide +kernel
theorem dX10_canvas_130 : decode cX10_canvas 130 = .ok (.iconst 0, 1) := by decide +kernel
theorem dX10_canvas_131 : decode cX10_canvas 131 = .ok (.istore 7, 2) := by decide +kernel
theorem dX10_canvas_133 : decode cX10_canvas 133 = .ok (.iload 7, 2) := by decide +kernel
theorem dX10_canvas_135 : decode cX10_canvas 135 = .ok (.iload_n 1, 1) := by decide +kernel
theorem dX10_canvas_136 : decode cX10_canvas 136 = .ok (.if_icmp .gt 138, 3) := by decide +kernel
theorem dX10_canvas_139 : decode cX10_canvas 139 = .ok (.aload_n 0, 1) := by decide +kernel
theorem dX10_canvas_140 : decode cX10_canvas 140 = .ok (.iload 7, 2) := by decide +kernel
theorem dX10_canvas_142 : decode cX10_canvas 142 = .ok (.iload_n 2, 1) := by decide +kernel
theorem dX10_canvas_143 : decode cX10_canvas 143 = .ok (.iload_n 3, 1) := by decide +kernel
theorem dX10_canvas_144 : decode cX10_canvas 144 = .ok (.invokevirtual 287, 3) := by decide +kernel
theorem dX10_canvas_147 : decode cX10_canvas 147 = .ok (.istore 8, 2) := by decide +kernel
theorem dX10_canvas_149 : decode cX10_canvas 149 = .ok (.iload 5, 2) := by decide +kernel
theorem dX10_canvas_151 : decode cX10_canvas 151 = .ok (.istore 6, 2) := by decide +kernel
theorem dX10_canvas_153 : decode cX10_canvas 153 = .ok (.iload 8, 2) := by decide +kernel
theorem dX10_canvas_155 : decode cX10_canvas 155 = .ok (.ifCond .lt 71, 3) := by decide +kernel
theorem dX10_canvas_158 : decode cX10_canvas 158 = .ok (.iload 8, 2) := by decide +kernel
theorem dX10_canvas_160 : decode cX10_canvas 160 = .ok (.aload_n 0, 1) := by decide +kernel
theorem dX10_canvas_161 : decode cX10_canvas 161 = .ok (.aload_n 0, 1) := by decide +kernel
theorem dX10_canvas_162 : decode cX10_canvas 162 = .ok (.getfield 66, 3) := by decide +kernel
theorem dX10_canvas_165 : decode cX10_canvas 165 = .ok (.iload 7, 2) := by decide +kernel
theorem dX10_canvas_167 : decode cX10_canvas 167 = .ok (.bipush 7, 2) := by decide +kernel
theorem dX10_canvas_169 : decode cX10_canvas 169 = .ok (.invokevirtual 73, 3) := by decide +kernel
theorem dX10_canvas_172 : decode cX10_canvas 172 = .ok (.if_icmp .eq 54, 3) := by decide +kernel
theorem dX10_canvas_175 : decode cX10_canvas 175 = .ok (.aload_n 0, 1) := by decide +kernel
theorem dX10_canvas_176 : decode cX10_canvas 176 = .ok (.aload_n 0, 1) := by decide +kernel
theorem dX10_canvas_177 : decode cX10_canvas 177 = .ok (.getfield 66, 3) := by decide +kernel
theorem dX10_canvas_180 : decode cX10_canvas 180 = .ok (.iload 7, 2) := by decide +kernel
theorem dX10_canvas_182 : decode cX10_canvas 182 = .ok (.iconst 4, 1) := by decide +kernel
theorem dX10_canvas_183 : decode cX10_canvas 183 = .ok (.invokevirtual 73, 3) := by decide +kernel
theorem dX10_canvas_186 : decode cX10_canvas 186 = .ok (.ifCond .le 22, 3) := by decide +kernel
theorem dX10_canvas_189 : decode cX10_canvas 189 = .ok (.aload_n 0, 1) := by decide +kernel
theorem dX10_canvas_190 : decode cX10_canvas 190 = .ok (.getfield 33, 3) := by decide +kernel
theorem dX10_canvas_193 : decode cX10_canvas 193 = .ok (.aload_n 0, 1) := by decide +kernel
theorem dX10_canvas_194 : decode cX10_canvas 194 = .ok (.getfield 66, 3) := by decide +kernel
theorem dX10_canvas_197 : decode cX10_canvas 197 = .ok (.iload 7, 2) := by decide +kernel
theorem dX10_canvas_199 : decode cX10_canvas 199 = .ok (.iload 8, 2) := by decide +kernel
theorem dX10_canvas_201 : decode cX10_canvas 201 = .ok (.invokestatic 160, 3) := by decide +kernel
theorem dX10_canvas_204 : decode cX10_canvas 204 = .ok (.iaload, 1) := by decide +kernel
theorem dX10_canvas_205 : decode cX10_canvas 205 = .ok (.goto 19, 3) := by decide +kernel
theorem dX10_canvas_208 : decode cX10_canvas 208 = .ok (.aload_n 0, 1) := by decide +kernel
theorem dX10_canvas_209 : decode cX10_canvas 209 = .ok (.getfield 27, 3) := by decide +kernel
theorem dX10_canvas_212 : decode cX10_canvas 212 = .ok (.sipush 256, 3) := by decide +kernel
theorem dX10_canvas_215 : decode cX10_canvas 215 = .ok (.aload_n 0, 1) := by decide +kernel
theorem dX10_canvas_216 : decode cX10_canvas 216 = .ok (.getfield 66, 3) := by decide +kernel
theorem dX10_canvas_219 : decode cX10_canvas 219 = .ok (.imul, 1) := by decide +kernel
theorem dX10_canvas_220 : decode cX10_canvas 220 = .ok (.iload 8, 2) := by decide +kernel
theorem dX10_canvas_222 : decode cX10_canvas 222 = .ok (.iadd, 1) := by decide +kernel
theorem dX10_canvas_223 : decode cX10_canvas 223 = .ok (.iaload, 1) := by decide +kernel
theorem dX10_canvas_224 : decode cX10_canvas 224 = .ok (.istore 6, 2) := by decide +kernel
theorem dX10_canvas_226 : decode cX10_canvas 226 = .ok (.aload_n 0, 1) := by decide +kernel
theorem dX10_canvas_227 : decode cX10_canvas 227 = .ok (.aload_n 0, 1) := by decide +kernel
theorem dX10_canvas_228 : decode cX10_canvas 228 = .ok (.getfield 66, 3) := by decide +kernel
theorem dX10_canvas_231 : decode cX10_canvas 231 = .ok (.iload 7, 2) := by decide +kernel
theorem dX10_canvas_233 : decode cX10_canvas 233 = .ok (.bipush 6, 2) := by decide +kernel
theorem dX10_canvas_235 : decode cX10_canvas 235 = .ok (.invokevirtual 73, 3) := by decide +kernel
theorem dX10_canvas_238 : decode cX10_canvas 238 = .ok (.istore 9, 2) := by decide +kernel
theorem dX10_canvas_240 : decode cX10_canvas 240 = .ok (.iload 9, 2) := by decide +kernel
theorem dX10_canvas_242 : decode cX10_canvas 242 = .ok (.iconst 2, 1) := by decide +kernel
theorem dX10_canvas_243 : decode cX10_canvas 243 = .ok (.if_icmp .ne 15, 3) := by decide +kernel
theorem dX10_canvas_246 : decode cX10_canvas 246 = .ok (.iload 8, 2) := by decide +kernel
theorem dX10_canvas_248 : decode cX10_canvas 248 = .ok (.ifCond .lt 10, 3) := by decide +kernel
theorem dX10_canvas_251 : decode cX10_canvas 251 = .ok (.iload 4, 2) := by decide +kernel
theorem dX10_canvas_253 : decode cX10_canvas 253 = .ok (.istore 5, 2) := by decide +kernel
theorem dX10_canvas_255 : decode cX10_canvas 255 = .ok (.goto 13, 3) := by decide +kernel
theorem dX10_canvas_258 : decode cX10_canvas 258 = .ok (.iload 9, 2) := by decide +kernel
theorem dX10_canvas_260 : decode cX10_canvas 260 = .ok (.iconst 3, 1) := by decide +kernel
theorem dX10_canvas_261 : decode cX10_canvas 261 = .ok (.if_icmp .eq 7, 3) := by decide +kernel
theorem dX10_canvas_264 : decode cX10_canvas 264 = .ok (.iload 6, 2) := by decide +kernel
theorem dX10_canvas_266 : decode cX10_canvas 266 = .ok (.istore 5, 2) := by decide +kernel
theorem dX10_canvas_268 : decode cX10_canvas 268 = .ok (.iinc 7 1, 3) := by decide +kernel
theorem dX10_canvas_271 : decode cX10_canvas 271 = .ok (.goto (-138), 3) := by decide +kernel
theorem dX10_canvas_274 : decode cX10_canvas 274 = .ok (.iload 6, 2) := by decide +kernel
theorem dX10_canvas_276 : decode cX10_canvas 276 = .ok (.ireturn, 1) := by decide +kernel
theorem dL_law_0 : decode cL_law 0 = .ok (.new 7, 3) := by decide +kernel
theorem dL_law_3 : decode cL_law 3 = .ok (.dup, 1) := by decide +kernel
theorem dL_law_4 : decode cL_law 4 = .ok (.invokespecial 9, 3) := by decide +kernel
theorem dL_law_7 : decode cL_law 7 = .ok (.astore_n 1, 1) := by decide +kernel
theorem dL_law_8 : decode cL_law 8 = .ok (.new 10, 3) := by decide +kernel
theorem dL_law_11 : decode cL_law 11 = .ok (.dup, 1) := by decide +kernel
theorem dL_law_12 : decode cL_law 12 = .ok (.invokespecial 12, 3) := by decide +kernel
theorem dL_law_15 : decode cL_law 15 = .ok (.astore_n 2, 1) := by decide +kernel
theorem dL_law_16 : decode cL_law 16 = .ok (.iconst 0, 1) := by decide +kernel
theorem dL_law_17 : decode cL_law 17 = .ok (.istore_n 3, 1) := by decide +kernel
theorem dL_law_18 : decode cL_law 18 = .ok (.iload_n 3, 1) := by decide +kernel
theorem dL_law_19 : decode cL_law 19 = .ok (.aload_n 0, 1) := by decide +kernel
theorem dL_law_20 : decode cL_law 20 = .ok (.arraylength, 1) := by decide +kernel
theorem dL_law_21 : decode cL_law 21 = .ok (.bipush 7, 2) := by decide +kernel
theorem dL_law_23 : decode cL_law 23 = .ok (.isub, 1) := by decide +kernel
theorem dL_law_24 : decode cL_law 24 = .ok (.if_icmp .gt 736, 3) := by decide +kernel
theorem dL_law_27 : decode cL_law 27 = .ok (.aload_n 0, 1) := by decide +kernel
theorem dL_law_28 : decode cL_law 28 = .ok (.iload_n 3, 1) := by decide +kernel
theorem dL_law_29 : decode cL_law 29 = .ok (.iaload, 1) := by decide +kernel
theorem dL_law_30 : decode cL_law 30 = .ok (.bipush 15, 2) := by decide +kernel
theorem dL_law_32 : decode cL_law 32 = .ok (.iand, 1) := by decide +kernel
theorem dL_law_33 : decode cL_law 33 = .ok (.tableswitch 721 0 15 #[79, 142, 155, 178, 201, 254, 297, 388, 467, 520, 533, 556, 579, 612, 645, 678], 79) := by decide +kernel
theorem dL_law_112 : decode cL_law 112 = .ok (.aload_n 1, 1) := by decide +kernel
theorem dL_law_113 : decode cL_law 113 = .ok (.aload_n 0, 1) := by decide +kernel
theorem dL_law_114 : decode cL_law 114 = .ok (.iload_n 3, 1) := by decide +kernel
theorem dL_law_115 : decode cL_law 115 = .ok (.iconst 1, 1) := by decide +kernel
theorem dL_law_116 : decode cL_law 116 = .ok (.iadd, 1) := by decide +kernel
theorem dL_law_117 : decode cL_law 117 = .ok (.iaload, 1) := by decide +kernel
theorem dL_law_118 : decode cL_law 118 = .ok (.aload_n 0, 1) := by decide +kernel
theorem dL_law_119 : decode cL_law 119 = .ok (.iload_n 3, 1) := by decide +kernel
theorem dL_law_120 : decode cL_law 120 = .ok (.iconst 2, 1) := by decide +kernel
theorem dL_law_121 : decode cL_law 121 = .ok (.iadd, 1) := by decide +kernel
theorem dL_law_122 : decode cL_law 122 = .ok (.iaload, 1) := by decide +kernel
theorem dL_law_123 : decode cL_law 123 = .ok (.aload_n 0, 1) := by decide +kernel
theorem dL_law_124 : decode cL_law 124 = .ok (.iload_n 3, 1) := by decide +kernel
theorem dL_law_125 : decode cL_law 125 = .ok (.iconst 3, 1) := by decide +kernel
theorem dL_law_126 : decode cL_law 126 = .ok (.iadd, 1) := by decide +kernel
theorem dL_law_127 : decode cL_law 127 = .ok (.iaload, 1) := by decide +kernel
theorem dL_law_128 : decode cL_law 128 = .ok (.aload_n 0, 1) := by decide +kernel
theorem dL_law_129 : decode cL_law 129 = .ok (.iload_n 3, 1) := by decide +kernel
theorem dL_law_130 : decode cL_law 130 = .ok (.iconst 4, 1) := by decide +kernel
theorem dL_law_131 : decode cL_law 131 = .ok (.iadd, 1) := by decide +kernel
theorem dL_law_132 : decode cL_law 132 = .ok (.iaload, 1) := by decide +kernel
theorem dL_law_133 : decode cL_law 133 = .ok (.aload_n 0, 1) := by decide +kernel
theorem dL_law_134 : decode cL_law 134 = .ok (.iload_n 3, 1) := by decide +kernel
theorem dL_law_135 : decode cL_law 135 = .ok (.iconst 5, 1) := by decide +kernel
theorem dL_law_136 : decode cL_law 136 = .ok (.iadd, 1) := by decide +kernel
theorem dL_law_137 : decode cL_law 137 = .ok (.iaload, 1) := by decide +kernel
theorem dL_law_138 : decode cL_law 138 = .ok (.invokevirtual 13, 3) := by decide +kernel
theorem dL_law_141 : decode cL_law 141 = .ok (.aload_n 2, 1) := by decide +kernel
theorem dL_law_142 : decode cL_law 142 = .ok (.aload_n 0, 1) := by decide +kernel
theorem dL_law_143 : decode cL_law 143 = .ok (.iload_n 3, 1) := by decide +kernel
theorem dL_law_144 : decode cL_law 144 = .ok (.iconst 1, 1) := by decide +kernel
theorem dL_law_145 : decode cL_law 145 = .ok (.iadd, 1) := by decide +kernel
theorem dL_law_146 : decode cL_law 146 = .ok (.iaload, 1) := by decide +kernel
theorem dL_law_147 : decode cL_law 147 = .ok (.aload_n 0, 1) := by decide +kernel
theorem dL_law_148 : decode cL_law 148 = .ok (.iload_n 3, 1) := by decide +kernel
theorem dL_law_149 : decode cL_law 149 = .ok (.iconst 2, 1) := by decide +kernel
theorem dL_law_150 : decode cL_law 150 = .ok (.iadd, 1) := by decide +kernel
theorem dL_law_151 : decode cL_law 151 = .ok (.iaload, 1) := by decide +kernel
theorem dL_law_152 : decode cL_law 152 = .ok (.aload_n 0, 1) := by decide +kernel
theorem dL_law_153 : decode cL_law 153 = .ok (.iload_n 3, 1) := by decide +kernel
theorem dL_law_154 : decode cL_law 154 = .ok (.iconst 3, 1) := by decide +kernel
theorem dL_law_155 : decode cL_law 155 = .ok (.iadd, 1) := by decide +kernel
theorem dL_law_156 : decode cL_law 156 = .ok (.iaload, 1) := by decide +kernel
theorem dL_law_157 : decode cL_law 157 = .ok (.aload_n 0, 1) := by decide +kernel
theorem dL_law_158 : decode cL_law 158 = .ok (.iload_n 3, 1) := by decide +kernel
theorem dL_law_159 : decode cL_law 159 = .ok (.iconst 4, 1) := by decide +kernel
theorem dL_law_160 : decode cL_law 160 = .ok (.iadd, 1) := by decide +kernel
theorem dL_law_161 : decode cL_law 161 = .ok (.iaload, 1) := by decide +kernel
theorem dL_law_162 : decode cL_law 162 = .ok (.aload_n 0, 1) := by decide +kernel
theorem dL_law_163 : decode cL_law 163 = .ok (.iload_n 3, 1) := by decide +kernel
theorem dL_law_164 : decode cL_law 164 = .ok (.iconst 5, 1) := by decide +kernel
theorem dL_law_165 : decode cL_law 165 = .ok (.iadd, 1) := by decide +kernel
theorem dL_law_166 : decode cL_law 166 = .ok (.iaload, 1) := by decide +kernel
theorem dL_law_167 : decode cL_law 167 = .ok (.invokevirtual 17, 3) := by decide +kernel
theorem dL_law_170 : decode cL_law 170 = .ok (.if_icmp .eq 584, 3) := by decide +kernel
theorem dL_law_173 : decode cL_law 173 = .ok (.iconst 0, 1) := by decide +kernel
theorem dL_law_174 : decode cL_law 174 = .ok (.ireturn, 1) := by decide +kernel
theorem dL_law_175 : decode cL_law 175 = .ok (.aload_n 1, 1) := by decide +kernel
theorem dL_law_176 : decode cL_law 176 = .ok (.invokevirtual 18, 3) := by decide +kernel
theorem dL_law_179 : decode cL_law 179 = .ok (.aload_n 2, 1) := by decide +kernel
theorem dL_law_180 : decode cL_law 180 = .ok (.invokevirtual 22, 3) := by decide +kernel
theorem dL_law_183 : decode cL_law 183 = .ok (.if_icmp .eq 571, 3) := by decide +kernel
theorem dL_law_186 : decode cL_law 186 = .ok (.iconst 0, 1) := by decide +kernel
theorem dL_law_187 : decode cL_law 187 = .ok (.ireturn, 1) := by decide +kernel
theorem dL_law_188 : decode cL_law 188 = .ok (.aload_n 1, 1) := by decide +kernel
theorem dL_law_189 : decode cL_law 189 = .ok (.aload_n 0, 1) := by decide +kernel
theorem dL_law_190 : decode cL_law 190 = .ok (.iload_n 3, 1) := by decide +kernel
theorem dL_law_191 : decode cL_law 191 = .ok (.iconst 1, 1) := by decide +kernel
theorem dL_law_192 : decode cL_law 192 = .ok (.iadd, 1) := by decide +kernel
theorem dL_law_193 : decode cL_law 193 = .ok (.iaload, 1) := by decide +kernel
theorem dL_law_194 : decode cL_law 194 = .ok (.invokevirtual 23, 3) := by decide +kernel
theorem dL_law_197 : decode cL_law 197 = .ok (.aload_n 2, 1) := by decide +kernel
theorem dL_law_198 : decode cL_law 198 = .ok (.aload_n 0, 1) := by decide +kernel
theorem dL_law_199 : decode cL_law 199 = .ok (.iload_n 3, 1) := by decide +kernel
theorem dL_law_200 : decode cL_law 200 = .ok (.iconst 1, 1) := by decide +kernel
theorem dL_law_201 : decode cL_law 201 = .ok (.iadd, 1) := by decide +kernel
theorem dL_law_202 : decode cL_law 202 = .ok (.iaload, 1) := by decide +kernel
theorem dL_law_203 : decode cL_law 203 = .ok (.invokevirtual 27, 3) := by decide +kernel
theorem dL_law_206 : decode cL_law 206 = .ok (.if_icmp .eq 548, 3) := by decide +kernel
theorem dL_law_209 : decode cL_law 209 = .ok (.iconst 0, 1) := by decide +kernel
theorem dL_law_210 : decode cL_law 210 = .ok (.ireturn, 1) := by decide +kernel
theorem dL_law_211 : decode cL_law 211 = .ok (.aload_n 1, 1) := by decide +kernel
theorem dL_law_212 : decode cL_law 212 = .ok (.aload_n 0, 1) := by decide +kernel
theorem dL_law_213 : decode cL_law 213 = .ok (.iload_n 3, 1) := by decide +kernel
theorem dL_law_214 : decode cL_law 214 = .ok (.iconst 1, 1) := by decide +kernel
theorem dL_law_215 : decode cL_law 215 = .ok (.iadd, 1) := by decide +kernel
theorem dL_law_216 : decode cL_law 216 = .ok (.iaload, 1) := by decide +kernel
theorem dL_law_217 : decode cL_law 217 = .ok (.invokevirtual 28, 3) := by decide +kernel
theorem dL_law_220 : decode cL_law 220 = .ok (.aload_n 2, 1) := by decide +kernel
theorem dL_law_221 : decode cL_law 221 = .ok (.aload_n 0, 1) := by decide +kernel
theorem dL_law_222 : decode cL_law 222 = .ok (.iload_n 3, 1) := by decide +kernel
theorem dL_law_223 : decode cL_law 223 = .ok (.iconst 1, 1) := by decide +kernel
theorem dL_law_224 : decode cL_law 224 = .ok (.iadd, 1) := by decide +kernel
theorem dL_law_225 : decode cL_law 225 = .ok (.iaload, 1) := by decide +kernel
theorem dL_law_226 : decode cL_law 226 = .ok (.invokevirtual 31, 3) := by decide +kernel
theorem dL_law_229 : decode cL_law 229 = .ok (.if_icmp .eq 525, 3) := by decide +kernel
theorem dL_law_232 : decode cL_law 232 = .ok (.iconst 0, 1) := by decide +kernel
theorem dL_law_233 : decode cL_law 233 = .ok (.ireturn, 1) := by decide +kernel
theorem dL_law_234 : decode cL_law 234 = .ok (.aload_n 1, 1) := by decide +kernel
theorem dL_law_235 : decode cL_law 235 = .ok (.aload_n 0, 1) := by decide +kernel
theorem dL_law_236 : decode cL_law 236 = .ok (.iload_n 3, 1) := by decide +kernel
theorem dL_law_237 : decode cL_law 237 = .ok (.iconst 1, 1) := by decide +kernel
theorem dL_law_238 : decode cL_law 238 = .ok (.iadd, 1) := by decide +kernel
theorem dL_law_239 : decode cL_law 239 = .ok (.iaload, 1) := by decide +kernel
theorem dL_law_240 : decode cL_law 240 = .ok (.aload_n 0, 1) := by decide +kernel
theorem dL_law_241 : decode cL_law 241 = .ok (.iload_n 3, 1) := by decide +kernel
theorem dL_law_242 : decode cL_law 242 = .ok (.iconst 2, 1) := by decide +kernel
theorem dL_law_243 : decode cL_law 243 = .ok (.iadd, 1) := by decide +kernel
theorem dL_law_244 : decode cL_law 244 = .ok (.iaload, 1) := by decide +kernel
theorem dL_law_245 : decode cL_law 245 = .ok (.aload_n 0, 1) := by decide +kernel
theorem dL_law_246 : decode cL_law 246 = .ok (.iload_n 3, 1) := by decide +kernel
theorem dL_law_247 : decode cL_law 247 = .ok (.iconst 3, 1) := by decide +kernel
theorem dL_law_248 : decode cL_law 248 = .ok (.iadd, 1) := by decide +kernel
theorem dL_law_249 : decode cL_law 249 = .ok (.iaload, 1) := by decide +kernel
theorem dL_law_250 : decode cL_law 250 = .ok (.aload_n 0, 1) := by decide +kernel
theorem dL_law_251 : decode cL_law 251 = .ok (.iload_n 3, 1) := by decide +kernel
theorem dL_law_252 : decode cL_law 252 = .ok (.iconst 4, 1) := by decide +kernel
theorem dL_law_253 : decode cL_law 253 = .ok (.iadd, 1) := by decide +kernel
theorem dL_law_254 : decode cL_law 254 = .ok (.iaload, 1) := by decide +kernel
theorem dL_law_255 : decode cL_law 255 = .ok (.invokevirtual 32, 3) := by decide +kernel
theorem dL_law_258 : decode cL_law 258 = .ok (.aload_n 2, 1) := by decide +kernel
theorem dL_law_259 : decode cL_law 259 = .ok (.aload_n 0, 1) := by decide +kernel
theorem dL_law_260 : decode cL_law 260 = .ok (.iload_n 3, 1) := by decide +kernel
theorem dL_law_261 : decode cL_law 261 = .ok (.iconst 1, 1) := by decide +kernel
theorem dL_law_262 : decode cL_law 262 = .ok (.iadd, 1) := by decide +kernel
theorem dL_law_263 : decode cL_law 263 = .ok (.iaload, 1) := by decide +kernel
theorem dL_law_264 : decode cL_law 264 = .ok (.aload_n 0, 1) := by decide +kernel
theorem dL_law_265 : decode cL_law 265 = .ok (.iload_n 3, 1) := by decide +kernel
theorem dL_law_266 : decode cL_law 266 = .ok (.iconst 2, 1) := by decide +kernel
theorem dL_law_267 : decode cL_law 267 = .ok (.iadd, 1) := by decide +kernel
theorem dL_law_268 : decode cL_law 268 = .ok (.iaload, 1) := by decide +kernel
theorem dL_law_269 : decode cL_law 269 = .ok (.aload_n 0, 1) := by decide +kernel
theorem dL_law_270 : decode cL_law 270 = .ok (.iload_n 3, 1) := by decide +kernel
theorem dL_law_271 : decode cL_law 271 = .ok (.iconst 3, 1) := by decide +kernel
theorem dL_law_272 : decode cL_law 272 = .ok (.iadd, 1) := by decide +kernel
theorem dL_law_273 : decode cL_law 273 = .ok (.iaload, 1) := by decide +kernel
theorem dL_law_274 : decode cL_law 274 = .ok (.aload_n 0, 1) := by decide +kernel
theorem dL_law_275 : decode cL_law 275 = .ok (.iload_n 3, 1) := by decide +kernel
theorem dL_law_276 : decode cL_law 276 = .ok (.iconst 4, 1) := by decide +kernel
theorem dL_law_277 : decode cL_law 277 = .ok (.iadd, 1) := by decide +kernel
theorem dL_law_278 : decode cL_law 278 = .ok (.iaload, 1) := by decide +kernel
theorem dL_law_279 : decode cL_law 279 = .ok (.invokevirtual 36, 3) := by decide +kernel
theorem dL_law_282 : decode cL_law 282 = .ok (.if_icmp .eq 472, 3) := by decide +kernel
theorem dL_law_285 : decode cL_law 285 = .ok (.iconst 0, 1) := by decide +kernel
theorem dL_law_286 : decode cL_law 286 = .ok (.ireturn, 1) := by decide +kernel
theorem dL_law_287 : decode cL_law 287 = .ok (.aload_n 1, 1) := by decide +kernel
theorem dL_law_288 : decode cL_law 288 = .ok (.aload_n 0, 1) := by decide +kernel
theorem dL_law_289 : decode cL_law 289 = .ok (.iload_n 3, 1) := by decide +kernel
theorem dL_law_290 : decode cL_law 290 = .ok (.iconst 1, 1) := by decide +kernel
theorem dL_law_291 : decode cL_law 291 = .ok (.iadd, 1) := by decide +kernel
theorem dL_law_292 : decode cL_law 292 = .ok (.iaload, 1) := by decide +kernel
theorem dL_law_293 : decode cL_law 293 = .ok (.aload_n 0, 1) := by decide +kernel
theorem dL_law_294 : decode cL_law 294 = .ok (.iload_n 3, 1) := by decide +kernel
theorem dL_law_295 : decode cL_law 295 = .ok (.iconst 2, 1) := by decide +kernel
theorem dL_law_296 : decode cL_law 296 = .ok (.iadd, 1) := by decide +kernel
theorem dL_law_297 : decode cL_law 297 = .ok (.iaload, 1) := by decide +kernel
theorem dL_law_298 : decode cL_law 298 = .ok (.aload_n 0, 1) := by decide +kernel
theorem dL_law_299 : decode cL_law 299 = .ok (.iload_n 3, 1) := by decide +kernel
theorem dL_law_300 : decode cL_law 300 = .ok (.iconst 3, 1) := by decide +kernel
theorem dL_law_301 : decode cL_law 301 = .ok (.iadd, 1) := by decide +kernel
theorem dL_law_302 : decode cL_law 302 = .ok (.iaload, 1) := by decide +kernel
theorem dL_law_303 : decode cL_law 303 = .ok (.invokevirtual 37, 3) := by decide +kernel
theorem dL_law_306 : decode cL_law 306 = .ok (.aload_n 2, 1) := by decide +kernel
theorem dL_law_307 : decode cL_law 307 = .ok (.aload_n 0, 1) := by decide +kernel
theorem dL_law_308 : decode cL_law 308 = .ok (.iload_n 3, 1) := by decide +kernel
theorem dL_law_309 : decode cL_law 309 = .ok (.iconst 1, 1) := by decide +kernel
theorem dL_law_310 : decode cL_law 310 = .ok (.iadd, 1) := by decide +kernel
theorem dL_law_311 : decode cL_law 311 = .ok (.iaload, 1) := by decide +kernel
theorem dL_law_312 : decode cL_law 312 = .ok (.aload_n 0, 1) := by decide +kernel
theorem dL_law_313 : decode cL_law 313 = .ok (.iload_n 3, 1) := by decide +kernel
theorem dL_law_314 : decode cL_law 314 = .ok (.iconst 2, 1) := by decide +kernel
theorem dL_law_315 : decode cL_law 315 = .ok (.iadd, 1) := by decide +kernel
theorem dL_law_316 : decode cL_law 316 = .ok (.iaload, 1) := by decide +kernel
theorem dL_law_317 : decode cL_law 317 = .ok (.aload_n 0, 1) := by decide +kernel
theorem dL_law_318 : decode cL_law 318 = .ok (.iload_n 3, 1) := by decide +kernel
theorem dL_law_319 : decode cL_law 319 = .ok (.iconst 3, 1) := by decide +kernel
theorem dL_law_320 : decode cL_law 320 = .ok (.iadd, 1) := by decide +kernel
theorem dL_law_321 : decode cL_law 321 = .ok (.iaload, 1) := by decide +kernel
theorem dL_law_322 : decode cL_law 322 = .ok (.invokevirtual 41, 3) := by decide +kernel
theorem dL_law_325 : decode cL_law 325 = .ok (.if_icmp .eq 429, 3) := by decide +kernel
theorem dL_law_328 : decode cL_law 328 = .ok (.iconst 0, 1) := by decide +kernel
theorem dL_law_329 : decode cL_law 329 = .ok (.ireturn, 1) := by decide +kernel
theorem dL_law_330 : decode cL_law 330 = .ok (.aload_n 1, 1) := by decide +kernel
theorem dL_law_331 : decode cL_law 331 = .ok (.aload_n 0, 1) := by decide +kernel
theorem dL_law_332 : decode cL_law 332 = .ok (.iload_n 3, 1) := by decide +kernel
theorem dL_law_333 : decode cL_law 333 = .ok (.iconst 1, 1) := by decide +kernel
theorem dL_law_334 : decode cL_law 334 = .ok (.iadd, 1) := by decide +kernel
theorem dL_law_335 : decode cL_law 335 = .ok (.iaload, 1) := by decide +kernel
theorem dL_law_336 : decode cL_law 336 = .ok (.aload_n 0, 1) := by decide +kernel
theorem dL_law_337 : decode cL_law 337 = .ok (.iload_n 3, 1) := by decide +kernel
theorem dL_law_338 : decode cL_law 338 = .ok (.iconst 2, 1) := by decide +kernel
theorem dL_law_339 : decode cL_law 339 = .ok (.iadd, 1) := by decide +kernel
theorem dL_law_340 : decode cL_law 340 = .ok (.iaload, 1) := by decide +kernel
theorem dL_law_341 : decode cL_law 341 = .ok (.aload_n 0, 1) := by decide +kernel
theorem dL_law_342 : decode cL_law 342 = .ok (.iload_n 3, 1) := by decide +kernel
theorem dL_law_343 : decode cL_law 343 = .ok (.iconst 3, 1) := by decide +kernel
theorem dL_law_344 : decode cL_law 344 = .ok (.iadd, 1) := by decide +kernel
theorem dL_law_345 : decode cL_law 345 = .ok (.iaload, 1) := by decide +kernel
theorem dL_law_346 : decode cL_law 346 = .ok (.aload_n 0, 1) := by decide +kernel
theorem dL_law_347 : decode cL_law 347 = .ok (.iload_n 3, 1) := by decide +kernel
theorem dL_law_348 : decode cL_law 348 = .ok (.iconst 4, 1) := by decide +kernel
theorem dL_law_349 : decode cL_law 349 = .ok (.iadd, 1) := by decide +kernel
theorem dL_law_350 : decode cL_law 350 = .ok (.iaload, 1) := by decide +kernel
theorem dL_law_351 : decode cL_law 351 = .ok (.aload_n 0, 1) := by decide +kernel
theorem dL_law_352 : decode cL_law 352 = .ok (.iload_n 3, 1) := by decide +kernel
theorem dL_law_353 : decode cL_law 353 = .ok (.iconst 5, 1) := by decide +kernel
theorem dL_law_354 : decode cL_law 354 = .ok (.iadd, 1) := by decide +kernel
theorem dL_law_355 : decode cL_law 355 = .ok (.iaload, 1) := by decide +kernel
theorem dL_law_356 : decode cL_law 356 = .ok (.aload_n 0, 1) := by decide +kernel
theorem dL_law_357 : decode cL_law 357 = .ok (.iload_n 3, 1) := by decide +kernel
theorem dL_law_358 : decode cL_law 358 = .ok (.bipush 6, 2) := by decide +kernel
theorem dL_law_360 : decode cL_law 360 = .ok (.iadd, 1) := by decide +kernel
theorem dL_law_361 : decode cL_law 361 = .ok (.iaload, 1) := by decide +kernel
theorem dL_law_362 : decode cL_law 362 = .ok (.ifCond .eq 7, 3) := by decide +kernel
theorem dL_law_365 : decode cL_law 365 = .ok (.iconst 1, 1) := by decide +kernel
theorem dL_law_366 : decode cL_law 366 = .ok (.goto 4, 3) := by decide +kernel
theorem dL_law_369 : decode cL_law 369 = .ok (.iconst 0, 1) := by decide +kernel
theorem dL_law_370 : decode cL_law 370 = .ok (.invokevirtual 42, 3) := by decide +kernel
theorem dL_law_373 : decode cL_law 373 = .ok (.aload_n 2, 1) := by decide +kernel
theorem dL_law_374 : decode cL_law 374 = .ok (.aload_n 0, 1) := by decide +kernel
theorem dL_law_375 : decode cL_law 375 = .ok (.iload_n 3, 1) := by decide +kernel
theorem dL_law_376 : decode cL_law 376 = .ok (.iconst 1, 1) := by decide +kernel
theorem dL_law_377 : decode cL_law 377 = .ok (.iadd, 1) := by decide +kernel
theorem dL_law_378 : decode cL_law 378 = .ok (.iaload, 1) := by decide +kernel
theorem dL_law_379 : decode cL_law 379 = .ok (.aload_n 0, 1) := by decide +kernel
theorem dL_law_380 : decode cL_law 380 = .ok (.iload_n 3, 1) := by decide +kernel
theorem dL_law_381 : decode cL_law 381 = .ok (.iconst 2, 1) := by decide +kernel
theorem dL_law_382 : decode cL_law 382 = .ok (.iadd, 1) := by decide +kernel
theorem dL_law_383 : decode cL_law 383 = .ok (.iaload, 1) := by decide +kernel
theorem dL_law_384 : decode cL_law 384 = .ok (.aload_n 0, 1) := by decide +kernel
theorem dL_law_385 : decode cL_law 385 = .ok (.iload_n 3, 1) := by decide +kernel
theorem dL_law_386 : decode cL_law 386 = .ok (.iconst 3, 1) := by decide +kernel
theorem dL_law_387 : decode cL_law 387 = .ok (.iadd, 1) := by decide +kernel
theorem dL_law_388 : decode cL_law 388 = .ok (.iaload, 1) := by decide +kernel
theorem dL_law_389 : decode cL_law 389 = .ok (.aload_n 0, 1) := by decide +kernel
theorem dL_law_390 : decode cL_law 390 = .ok (.iload_n 3, 1) := by decide +kernel
theorem dL_law_391 : decode cL_law 391 = .ok (.iconst 4, 1) := by decide +kernel
theorem dL_law_392 : decode cL_law 392 = .ok (.iadd, 1) := by decide +kernel
theorem dL_law_393 : decode cL_law 393 = .ok (.iaload, 1) := by decide +kernel
theorem dL_law_394 : decode cL_law 394 = .ok (.aload_n 0, 1) := by decide +kernel
theorem dL_law_395 : decode cL_law 395 = .ok (.iload_n 3, 1) := by decide +kernel
theorem dL_law_396 : decode cL_law 396 = .ok (.iconst 5, 1) := by decide +kernel
theorem dL_law_397 : decode cL_law 397 = .ok (.iadd, 1) := by decide +kernel
theorem dL_law_398 : decode cL_law 398 = .ok (.iaload, 1) := by decide +kernel
theorem dL_law_399 : decode cL_law 399 = .ok (.aload_n 0, 1) := by decide +kernel
theorem dL_law_400 : decode cL_law 400 = .ok (.iload_n 3, 1) := by decide +kernel
theorem dL_law_401 : decode cL_law 401 = .ok (.bipush 6, 2) := by decide +kernel
theorem dL_law_403 : decode cL_law 403 = .ok (.iadd, 1) := by decide +kernel
theorem dL_law_404 : decode cL_law 404 = .ok (.iaload, 1) := by decide +kernel
theorem dL_law_405 : decode cL_law 405 = .ok (.ifCond .eq 7, 3) := by decide +kernel
theorem dL_law_408 : decode cL_law 408 = .ok (.iconst 1, 1) := by decide +kernel
theorem dL_law_409 : decode cL_law 409 = .ok (.goto 4, 3) := by decide +kernel
theorem dL_law_412 : decode cL_law 412 = .ok (.iconst 0, 1) := by decide +kernel
theorem dL_law_413 : decode cL_law 413 = .ok (.invokevirtual 46, 3) := by decide +kernel
theorem dL_law_416 : decode cL_law 416 = .ok (.if_icmp .eq 338, 3) := by decide +kernel
theorem dL_law_419 : decode cL_law 419 = .ok (.iconst 0, 1) := by decide +kernel
theorem dL_law_420 : decode cL_law 420 = .ok (.ireturn, 1) := by decide +kernel
theorem dL_law_421 : decode cL_law 421 = .ok (.aload_n 1, 1) := by decide +kernel
theorem dL_law_422 : decode cL_law 422 = .ok (.aload_n 0, 1) := by decide +kernel
theorem dL_law_423 : decode cL_law 423 = .ok (.iload_n 3, 1) := by decide +kernel
theorem dL_law_424 : decode cL_law 424 = .ok (.iconst 1, 1) := by decide +kernel
theorem dL_law_425 : decode cL_law 425 = .ok (.iadd, 1) := by decide +kernel
theorem dL_law_426 : decode cL_law 426 = .ok (.iaload, 1) := by decide +kernel
theorem dL_law_427 : decode cL_law 427 = .ok (.aload_n 0, 1) := by decide +kernel
theorem dL_law_428 : decode cL_law 428 = .ok (.iload_n 3, 1) := by decide +kernel
theorem dL_law_429 : decode cL_law 429 = .ok (.iconst 2, 1) := by decide +kernel
theorem dL_law_430 : decode cL_law 430 = .ok (.iadd, 1) := by decide +kernel
theorem dL_law_431 : decode cL_law 431 = .ok (.iaload, 1) := by decide +kernel
theorem dL_law_432 : decode cL_law 432 = .ok (.aload_n 0, 1) := by decide +kernel
theorem dL_law_433 : decode cL_law 433 = .ok (.iload_n 3, 1) := by decide +kernel
theorem dL_law_434 : decode cL_law 434 = .ok (.iconst 3, 1) := by decide +kernel
theorem dL_law_435 : decode cL_law 435 = .ok (.iadd, 1) := by decide +kernel
theorem dL_law_436 : decode cL_law 436 = .ok (.iaload, 1) := by decide +kernel
theorem dL_law_437 : decode cL_law 437 = .ok (.aload_n 0, 1) := by decide +kernel
theorem dL_law_438 : decode cL_law 438 = .ok (.iload_n 3, 1) := by decide +kernel
theorem dL_law_439 : decode cL_law 439 = .ok (.iconst 4, 1) := by decide +kernel
theorem dL_law_440 : decode cL_law 440 = .ok (.iadd, 1) := by decide +kernel
theorem dL_law_441 : decode cL_law 441 = .ok (.iaload, 1) := by decide +kernel
theorem dL_law_442 : decode cL_law 442 = .ok (.aload_n 0, 1) := by decide +kernel
theorem dL_law_443 : decode cL_law 443 = .ok (.iload_n 3, 1) := by decide +kernel
theorem dL_law_444 : decode cL_law 444 = .ok (.iconst 5, 1) := by decide +kernel
theorem dL_law_445 : decode cL_law 445 = .ok (.iadd, 1) := by decide +kernel
theorem dL_law_446 : decode cL_law 446 = .ok (.iaload, 1) := by decide +kernel
theorem dL_law_447 : decode cL_law 447 = .ok (.ifCond .eq 7, 3) := by decide +kernel
theorem dL_law_450 : decode cL_law 450 = .ok (.iconst 1, 1) := by decide +kernel
theorem dL_law_451 : decode cL_law 451 = .ok (.goto 4, 3) := by decide +kernel
theorem dL_law_454 : decode cL_law 454 = .ok (.iconst 0, 1) := by decide +kernel
theorem dL_law_455 : decode cL_law 455 = .ok (.invokevirtual 47, 3) := by decide +kernel
theorem dL_law_458 : decode cL_law 458 = .ok (.aload_n 2, 1) := by decide +kernel
theorem dL_law_459 : decode cL_law 459 = .ok (.aload_n 0, 1) := by decide +kernel
theorem dL_law_460 : decode cL_law 460 = .ok (.iload_n 3, 1) := by decide +kernel
theorem dL_law_461 : decode cL_law 461 = .ok (.iconst 1, 1) := by decide +kernel
theorem dL_law_462 : decode cL_law 462 = .ok (.iadd, 1) := by decide +kernel
theorem dL_law_463 : decode cL_law 463 = .ok (.iaload, 1) := by decide +kernel
theorem dL_law_464 : decode cL_law 464 = .ok (.aload_n 0, 1) := by decide +kernel
theorem dL_law_465 : decode cL_law 465 = .ok (.iload_n 3, 1) := by decide +kernel
theorem dL_law_466 : decode cL_law 466 = .ok (.iconst 2, 1) := by decide +kernel
theorem dL_law_467 : decode cL_law 467 = .ok (.iadd, 1) := by decide +kernel
theorem dL_law_468 : decode cL_law 468 = .ok (.iaload, 1) := by decide +kernel
theorem dL_law_469 : decode cL_law 469 = .ok (.aload_n 0, 1) := by decide +kernel
theorem dL_law_470 : decode cL_law 470 = .ok (.iload_n 3, 1) := by decide +kernel
theorem dL_law_471 : decode cL_law 471 = .ok (.iconst 3, 1) := by decide +kernel
theorem dL_law_472 : decode cL_law 472 = .ok (.iadd, 1) := by decide +kernel
theorem dL_law_473 : decode cL_law 473 = .ok (.iaload, 1) := by decide +kernel
theorem dL_law_474 : decode cL_law 474 = .ok (.aload_n 0, 1) := by decide +kernel
theorem dL_law_475 : decode cL_law 475 = .ok (.iload_n 3, 1) := by decide +kernel
theorem dL_law_476 : decode cL_law 476 = .ok (.iconst 4, 1) := by decide +kernel
theorem dL_law_477 : decode cL_law 477 = .ok (.iadd, 1) := by decide +kernel
theorem dL_law_478 : decode cL_law 478 = .ok (.iaload, 1) := by decide +kernel
theorem dL_law_479 : decode cL_law 479 = .ok (.aload_n 0, 1) := by decide +kernel
theorem dL_law_480 : decode cL_law 480 = .ok (.iload_n 3, 1) := by decide +kernel
theorem dL_law_481 : decode cL_law 481 = .ok (.iconst 5, 1) := by decide +kernel
theorem dL_law_482 : decode cL_law 482 = .ok (.iadd, 1) := by decide +kernel
theorem dL_law_483 : decode cL_law 483 = .ok (.iaload, 1) := by decide +kernel
theorem dL_law_484 : decode cL_law 484 = .ok (.ifCond .eq 7, 3) := by decide +kernel
theorem dL_law_487 : decode cL_law 487 = .ok (.iconst 1, 1) := by decide +kernel
theorem dL_law_488 : decode cL_law 488 = .ok (.goto 4, 3) := by decide +kernel
theorem dL_law_491 : decode cL_law 491 = .ok (.iconst 0, 1) := by decide +kernel
theorem dL_law_492 : decode cL_law 492 = .ok (.invokevirtual 51, 3) := by decide +kernel
theorem dL_law_495 : decode cL_law 495 = .ok (.if_icmp .eq 259, 3) := by decide +kernel
theorem dL_law_498 : decode cL_law 498 = .ok (.iconst 0, 1) := by decide +kernel
theorem dL_law_499 : decode cL_law 499 = .ok (.ireturn, 1) := by decide +kernel
theorem dL_law_500 : decode cL_law 500 = .ok (.aload_n 1, 1) := by decide +kernel
theorem dL_law_501 : decode cL_law 501 = .ok (.aload_n 0, 1) := by decide +kernel
theorem dL_law_502 : decode cL_law 502 = .ok (.iload_n 3, 1) := by decide +kernel
theorem dL_law_503 : decode cL_law 503 = .ok (.iconst 1, 1) := by decide +kernel
theorem dL_law_504 : decode cL_law 504 = .ok (.iadd, 1) := by decide +kernel
theorem dL_law_505 : decode cL_law 505 = .ok (.iaload, 1) := by decide +kernel
theorem dL_law_506 : decode cL_law 506 = .ok (.aload_n 0, 1) := by decide +kernel
theorem dL_law_507 : decode cL_law 507 = .ok (.iload_n 3, 1) := by decide +kernel
theorem dL_law_508 : decode cL_law 508 = .ok (.iconst 2, 1) := by decide +kernel
theorem dL_law_509 : decode cL_law 509 = .ok (.iadd, 1) := by decide +kernel
theorem dL_law_510 : decode cL_law 510 = .ok (.iaload, 1) := by decide +kernel
theorem dL_law_511 : decode cL_law 511 = .ok (.aload_n 0, 1) := by decide +kernel
theorem dL_law_512 : decode cL_law 512 = .ok (.iload_n 3, 1) := by decide +kernel
theorem dL_law_513 : decode cL_law 513 = .ok (.iconst 3, 1) := by decide +kernel
theorem dL_law_514 : decode cL_law 514 = .ok (.iadd, 1) := by decide +kernel
theorem dL_law_515 : decode cL_law 515 = .ok (.iaload, 1) := by decide +kernel
theorem dL_law_516 : decode cL_law 516 = .ok (.aload_n 0, 1) := by decide +kernel
theorem dL_law_517 : decode cL_law 517 = .ok (.iload_n 3, 1) := by decide +kernel
theorem dL_law_518 : decode cL_law 518 = .ok (.iconst 4, 1) := by decide +kernel
theorem dL_law_519 : decode cL_law 519 = .ok (.iadd, 1) := by decide +kernel
theorem dL_law_520 : decode cL_law 520 = .ok (.iaload, 1) := by decide +kernel
theorem dL_law_521 : decode cL_law 521 = .ok (.invokevirtual 52, 3) := by decide +kernel
theorem dL_law_524 : decode cL_law 524 = .ok (.aload_n 2, 1) := by decide +kernel
theorem dL_law_525 : decode cL_law 525 = .ok (.aload_n 0, 1) := by decide +kernel
theorem dL_law_526 : decode cL_law 526 = .ok (.iload_n 3, 1) := by decide +kernel
theorem dL_law_527 : decode cL_law 527 = .ok (.iconst 1, 1) := by decide +kernel
theorem dL_law_528 : decode cL_law 528 = .ok (.iadd, 1) := by decide +kernel
theorem dL_law_529 : decode cL_law 529 = .ok (.iaload, 1) := by decide +kernel
theorem dL_law_530 : decode cL_law 530 = .ok (.aload_n 0, 1) := by decide +kernel
theorem dL_law_531 : decode cL_law 531 = .ok (.iload_n 3, 1) := by decide +kernel
theorem dL_law_532 : decode cL_law 532 = .ok (.iconst 2, 1) := by decide +kernel
theorem dL_law_533 : decode cL_law 533 = .ok (.iadd, 1) := by decide +kernel
theorem dL_law_534 : decode cL_law 534 = .ok (.iaload, 1) := by decide +kernel
theorem dL_law_535 : decode cL_law 535 = .ok (.aload_n 0, 1) := by decide +kernel
theorem dL_law_536 : decode cL_law 536 = .ok (.iload_n 3, 1) := by decide +kernel
theorem dL_law_537 : decode cL_law 537 = .ok (.iconst 3, 1) := by decide +kernel
theorem dL_law_538 : decode cL_law 538 = .ok (.iadd, 1) := by decide +kernel
theorem dL_law_539 : decode cL_law 539 = .ok (.iaload, 1) := by decide +kernel
theorem dL_law_540 : decode cL_law 540 = .ok (.aload_n 0, 1) := by decide +kernel
theorem dL_law_541 : decode cL_law 541 = .ok (.iload_n 3, 1) := by decide +kernel
theorem dL_law_542 : decode cL_law 542 = .ok (.iconst 4, 1) := by decide +kernel
theorem dL_law_543 : decode cL_law 543 = .ok (.iadd, 1) := by decide +kernel
theorem dL_law_544 : decode cL_law 544 = .ok (.iaload, 1) := by decide +kernel
theorem dL_law_545 : decode cL_law 545 = .ok (.invokevirtual 55, 3) := by decide +kernel
theorem dL_law_548 : decode cL_law 548 = .ok (.if_icmp .eq 206, 3) := by decide +kernel
theorem dL_law_551 : decode cL_law 551 = .ok (.iconst 0, 1) := by decide +kernel
theorem dL_law_552 : decode cL_law 552 = .ok (.ireturn, 1) := by decide +kernel
theorem dL_law_553 : decode cL_law 553 = .ok (.aload_n 1, 1) := by decide +kernel
theorem dL_law_554 : decode cL_law 554 = .ok (.invokevirtual 56, 3) := by decide +kernel
theorem dL_law_557 : decode cL_law 557 = .ok (.aload_n 2, 1) := by decide +kernel
theorem dL_law_558 : decode cL_law 558 = .ok (.invokevirtual 59, 3) := by decide +kernel
theorem dL_law_561 : decode cL_law 561 = .ok (.if_icmp .eq 193, 3) := by decide +kernel
theorem dL_law_564 : decode cL_law 564 = .ok (.iconst 0, 1) := by decide +kernel
theorem dL_law_565 : decode cL_law 565 = .ok (.ireturn, 1) := by decide +kernel
theorem dL_law_566 : decode cL_law 566 = .ok (.aload_n 1, 1) := by decide +kernel
theorem dL_law_567 : decode cL_law 567 = .ok (.aload_n 0, 1) := by decide +kernel
theorem dL_law_568 : decode cL_law 568 = .ok (.iload_n 3, 1) := by decide +kernel
theorem dL_law_569 : decode cL_law 569 = .ok (.iconst 1, 1) := by decide +kernel
theorem dL_law_570 : decode cL_law 570 = .ok (.iadd, 1) := by decide +kernel
theorem dL_law_571 : decode cL_law 571 = .ok (.iaload, 1) := by decide +kernel
theorem dL_law_572 : decode cL_law 572 = .ok (.invokevirtual 60, 3) := by decide +kernel
theorem dL_law_575 : decode cL_law 575 = .ok (.aload_n 2, 1) := by decide +kernel
theorem dL_law_576 : decode cL_law 576 = .ok (.aload_n 0, 1) := by decide +kernel
theorem dL_law_577 : decode cL_law 577 = .ok (.iload_n 3, 1) := by decide +kernel
theorem dL_law_578 : decode cL_law 578 = .ok (.iconst 1, 1) := by decide +kernel
theorem dL_law_579 : decode cL_law 579 = .ok (.iadd, 1) := by decide +kernel
theorem dL_law_580 : decode cL_law 580 = .ok (.iaload, 1) := by decide +kernel
theorem dL_law_581 : decode cL_law 581 = .ok (.invokevirtual 63, 3) := by decide +kernel
theorem dL_law_584 : decode cL_law 584 = .ok (.if_icmp .eq 170, 3) := by decide +kernel
theorem dL_law_587 : decode cL_law 587 = .ok (.iconst 0, 1) := by decide +kernel
theorem dL_law_588 : decode cL_law 588 = .ok (.ireturn, 1) := by decide +kernel
theorem dL_law_589 : decode cL_law 589 = .ok (.aload_n 1, 1) := by decide +kernel
theorem dL_law_590 : decode cL_law 590 = .ok (.aload_n 0, 1) := by decide +kernel
theorem dL_law_591 : decode cL_law 591 = .ok (.iload_n 3, 1) := by decide +kernel
theorem dL_law_592 : decode cL_law 592 = .ok (.iconst 1, 1) := by decide +kernel
theorem dL_law_593 : decode cL_law 593 = .ok (.iadd, 1) := by decide +kernel
theorem dL_law_594 : decode cL_law 594 = .ok (.iaload, 1) := by decide +kernel
theorem dL_law_595 : decode cL_law 595 = .ok (.invokevirtual 64, 3) := by decide +kernel
theorem dL_law_598 : decode cL_law 598 = .ok (.aload_n 2, 1) := by decide +kernel
theorem dL_law_599 : decode cL_law 599 = .ok (.aload_n 0, 1) := by decide +kernel
theorem dL_law_600 : decode cL_law 600 = .ok (.iload_n 3, 1) := by decide +kernel
theorem dL_law_601 : decode cL_law 601 = .ok (.iconst 1, 1) := by decide +kernel
theorem dL_law_602 : decode cL_law 602 = .ok (.iadd, 1) := by decide +kernel
theorem dL_law_603 : decode cL_law 603 = .ok (.iaload, 1) := by decide +kernel
theorem dL_law_604 : decode cL_law 604 = .ok (.invokevirtual 67, 3) := by decide +kernel
theorem dL_law_607 : decode cL_law 607 = .ok (.if_icmp .eq 147, 3) := by decide +kernel
theorem dL_law_610 : decode cL_law 610 = .ok (.iconst 0, 1) := by decide +kernel
theorem dL_law_611 : decode cL_law 611 = .ok (.ireturn, 1) := by decide +kernel
theorem dL_law_612 : decode cL_law 612 = .ok (.aload_n 1, 1) := by decide +kernel
theorem dL_law_613 : decode cL_law 613 = .ok (.aload_n 0, 1) := by decide +kernel
theorem dL_law_614 : decode cL_law 614 = .ok (.iload_n 3, 1) := by decide +kernel
theorem dL_law_615 : decode cL_law 615 = .ok (.iconst 1, 1) := by decide +kernel
theorem dL_law_616 : decode cL_law 616 = .ok (.iadd, 1) := by decide +kernel
theorem dL_law_617 : decode cL_law 617 = .ok (.iaload, 1) := by decide +kernel
theorem dL_law_618 : decode cL_law 618 = .ok (.aload_n 0, 1) := by decide +kernel
theorem dL_law_619 : decode cL_law 619 = .ok (.iload_n 3, 1) := by decide +kernel
theorem dL_law_620 : decode cL_law 620 = .ok (.iconst 2, 1) := by decide +kernel
theorem dL_law_621 : decode cL_law 621 = .ok (.iadd, 1) := by decide +kernel
theorem dL_law_622 : decode cL_law 622 = .ok (.iaload, 1) := by decide +kernel
theorem dL_law_623 : decode cL_law 623 = .ok (.invokevirtual 68, 3) := by decide +kernel
theorem dL_law_626 : decode cL_law 626 = .ok (.aload_n 2, 1) := by decide +kernel
theorem dL_law_627 : decode cL_law 627 = .ok (.aload_n 0, 1) := by decide +kernel
theorem dL_law_628 : decode cL_law 628 = .ok (.iload_n 3, 1) := by decide +kernel
theorem dL_law_629 : decode cL_law 629 = .ok (.iconst 1, 1) := by decide +kernel
theorem dL_law_630 : decode cL_law 630 = .ok (.iadd, 1) := by decide +kernel
theorem dL_law_631 : decode cL_law 631 = .ok (.iaload, 1) := by decide +kernel
theorem dL_law_632 : decode cL_law 632 = .ok (.aload_n 0, 1) := by decide +kernel
theorem dL_law_633 : decode cL_law 633 = .ok (.iload_n 3, 1) := by decide +kernel
theorem dL_law_634 : decode cL_law 634 = .ok (.iconst 2, 1) := by decide +kernel
theorem dL_law_635 : decode cL_law 635 = .ok (.iadd, 1) := by decide +kernel
theorem dL_law_636 : decode cL_law 636 = .ok (.iaload, 1) := by decide +kernel
theorem dL_law_637 : decode cL_law 637 = .ok (.invokevirtual 72, 3) := by decide +kernel
theorem dL_law_640 : decode cL_law 640 = .ok (.if_icmp .eq 114, 3) := by decide +kernel
theorem dL_law_643 : decode cL_law 643 = .ok (.iconst 0, 1) := by decide +kernel
theorem dL_law_644 : decode cL_law 644 = .ok (.ireturn, 1) := by decide +kernel
theorem dL_law_645 : decode cL_law 645 = .ok (.aload_n 1, 1) := by decide +kernel
theorem dL_law_646 : decode cL_law 646 = .ok (.aload_n 0, 1) := by decide +kernel
theorem dL_law_647 : decode cL_law 647 = .ok (.iload_n 3, 1) := by decide +kernel
theorem dL_law_648 : decode cL_law 648 = .ok (.iconst 1, 1) := by decide +kernel
theorem dL_law_649 : decode cL_law 649 = .ok (.iadd, 1) := by decide +kernel
theorem dL_law_650 : decode cL_law 650 = .ok (.iaload, 1) := by decide +kernel
theorem dL_law_651 : decode cL_law 651 = .ok (.aload_n 0, 1) := by decide +kernel
theorem dL_law_652 : decode cL_law 652 = .ok (.iload_n 3, 1) := by decide +kernel
theorem dL_law_653 : decode cL_law 653 = .ok (.iconst 2, 1) := by decide +kernel
theorem dL_law_654 : decode cL_law 654 = .ok (.iadd, 1) := by decide +kernel
theorem dL_law_655 : decode cL_law 655 = .ok (.iaload, 1) := by decide +kernel
theorem dL_law_656 : decode cL_law 656 = .ok (.invokevirtual 73, 3) := by decide +kernel
theorem dL_law_659 : decode cL_law 659 = .ok (.aload_n 2, 1) := by decide +kernel
theorem dL_law_660 : decode cL_law 660 = .ok (.aload_n 0, 1) := by decide +kernel
theorem dL_law_661 : decode cL_law 661 = .ok (.iload_n 3, 1) := by decide +kernel
theorem dL_law_662 : decode cL_law 662 = .ok (.iconst 1, 1) := by decide +kernel
theorem dL_law_663 : decode cL_law 663 = .ok (.iadd, 1) := by decide +kernel
theorem dL_law_664 : decode cL_law 664 = .ok (.iaload, 1) := by decide +kernel
theorem dL_law_665 : decode cL_law 665 = .ok (.aload_n 0, 1) := by decide +kernel
theorem dL_law_666 : decode cL_law 666 = .ok (.iload_n 3, 1) := by decide +kernel
theorem dL_law_667 : decode cL_law 667 = .ok (.iconst 2, 1) := by decide +kernel
theorem dL_law_668 : decode cL_law 668 = .ok (.iadd, 1) := by decide +kernel
theorem dL_law_669 : decode cL_law 669 = .ok (.iaload, 1) := by decide +kernel
theorem dL_law_670 : decode cL_law 670 = .ok (.invokevirtual 76, 3) := by decide +kernel
theorem dL_law_673 : decode cL_law 673 = .ok (.if_icmp .eq 81, 3) := by decide +kernel
theorem dL_law_676 : decode cL_law 676 = .ok (.iconst 0, 1) := by decide +kernel
theorem dL_law_677 : decode cL_law 677 = .ok (.ireturn, 1) := by decide +kernel
theorem dL_law_678 : decode cL_law 678 = .ok (.aload_n 1, 1) := by decide +kernel
theorem dL_law_679 : decode cL_law 679 = .ok (.aload_n 0, 1) := by decide +kernel
theorem dL_law_680 : decode cL_law 680 = .ok (.iload_n 3, 1) := by decide +kernel
theorem dL_law_681 : decode cL_law 681 = .ok (.iconst 1, 1) := by decide +kernel
theorem dL_law_682 : decode cL_law 682 = .ok (.iadd, 1) := by decide +kernel
theorem dL_law_683 : decode cL_law 683 = .ok (.iaload, 1) := by decide +kernel
theorem dL_law_684 : decode cL_law 684 = .ok (.aload_n 0, 1) := by decide +kernel
theorem dL_law_685 : decode cL_law 685 = .ok (.iload_n 3, 1) := by decide +kernel
theorem dL_law_686 : decode cL_law 686 = .ok (.iconst 2, 1) := by decide +kernel
theorem dL_law_687 : decode cL_law 687 = .ok (.iadd, 1) := by decide +kernel
theorem dL_law_688 : decode cL_law 688 = .ok (.iaload, 1) := by decide +kernel
theorem dL_law_689 : decode cL_law 689 = .ok (.invokevirtual 77, 3) := by decide +kernel
theorem dL_law_692 : decode cL_law 692 = .ok (.aload_n 2, 1) := by decide +kernel
theorem dL_law_693 : decode cL_law 693 = .ok (.aload_n 0, 1) := by decide +kernel
theorem dL_law_694 : decode cL_law 694 = .ok (.iload_n 3, 1) := by decide +kernel
theorem dL_law_695 : decode cL_law 695 = .ok (.iconst 1, 1) := by decide +kernel
theorem dL_law_696 : decode cL_law 696 = .ok (.iadd, 1) := by decide +kernel
theorem dL_law_697 : decode cL_law 697 = .ok (.iaload, 1) := by decide +kernel
theorem dL_law_698 : decode cL_law 698 = .ok (.aload_n 0, 1) := by decide +kernel
theorem dL_law_699 : decode cL_law 699 = .ok (.iload_n 3, 1) := by decide +kernel
theorem dL_law_700 : decode cL_law 700 = .ok (.iconst 2, 1) := by decide +kernel
theorem dL_law_701 : decode cL_law 701 = .ok (.iadd, 1) := by decide +kernel
theorem dL_law_702 : decode cL_law 702 = .ok (.iaload, 1) := by decide +kernel
theorem dL_law_703 : decode cL_law 703 = .ok (.invokevirtual 80, 3) := by decide +kernel
theorem dL_law_706 : decode cL_law 706 = .ok (.if_icmp .eq 48, 3) := by decide +kernel
theorem dL_law_709 : decode cL_law 709 = .ok (.iconst 0, 1) := by decide +kernel
theorem dL_law_710 : decode cL_law 710 = .ok (.ireturn, 1) := by decide +kernel
theorem dL_law_711 : decode cL_law 711 = .ok (.aload_n 1, 1) := by decide +kernel
theorem dL_law_712 : decode cL_law 712 = .ok (.aload_n 0, 1) := by decide +kernel
theorem dL_law_713 : decode cL_law 713 = .ok (.iload_n 3, 1) := by decide +kernel
theorem dL_law_714 : decode cL_law 714 = .ok (.iconst 1, 1) := by decide +kernel
theorem dL_law_715 : decode cL_law 715 = .ok (.iadd, 1) := by decide +kernel
theorem dL_law_716 : decode cL_law 716 = .ok (.iaload, 1) := by decide +kernel
theorem dL_law_717 : decode cL_law 717 = .ok (.aload_n 0, 1) := by decide +kernel
theorem dL_law_718 : decode cL_law 718 = .ok (.iload_n 3, 1) := by decide +kernel
theorem dL_law_719 : decode cL_law 719 = .ok (.iconst 2, 1) := by decide +kernel
theorem dL_law_720 : decode cL_law 720 = .ok (.iadd, 1) := by decide +kernel
theorem dL_law_721 : decode cL_law 721 = .ok (.iaload, 1) := by decide +kernel
theorem dL_law_722 : decode cL_law 722 = .ok (.aload_n 0, 1) := by decide +kernel
theorem dL_law_723 : decode cL_law 723 = .ok (.iload_n 3, 1) := by decide +kernel
theorem dL_law_724 : decode cL_law 724 = .ok (.iconst 3, 1) := by decide +kernel
theorem dL_law_725 : decode cL_law 725 = .ok (.iadd, 1) := by decide +kernel
theorem dL_law_726 : decode cL_law 726 = .ok (.iaload, 1) := by decide +kernel
theorem dL_law_727 : decode cL_law 727 = .ok (.invokevirtual 81, 3) := by decide +kernel
theorem dL_law_730 : decode cL_law 730 = .ok (.aload_n 2, 1) := by decide +kernel
theorem dL_law_731 : decode cL_law 731 = .ok (.aload_n 0, 1) := by decide +kernel
theorem dL_law_732 : decode cL_law 732 = .ok (.iload_n 3, 1) := by decide +kernel
theorem dL_law_733 : decode cL_law 733 = .ok (.iconst 1, 1) := by decide +kernel
theorem dL_law_734 : decode cL_law 734 = .ok (.iadd, 1) := by decide +kernel
theorem dL_law_735 : decode cL_law 735 = .ok (.iaload, 1) := by decide +kernel
theorem dL_law_736 : decode cL_law 736 = .ok (.aload_n 0, 1) := by decide +kernel
theorem dL_law_737 : decode cL_law 737 = .ok (.iload_n 3, 1) := by decide +kernel
theorem dL_law_738 : decode cL_law 738 = .ok (.iconst 2, 1) := by decide +kernel
theorem dL_law_739 : decode cL_law 739 = .ok (.iadd, 1) := by decide +kernel
theorem dL_law_740 : decode cL_law 740 = .ok (.iaload, 1) := by decide +kernel
theorem dL_law_741 : decode cL_law 741 = .ok (.aload_n 0, 1) := by decide +kernel
theorem dL_law_742 : decode cL_law 742 = .ok (.iload_n 3, 1) := by decide +kernel
theorem dL_law_743 : decode cL_law 743 = .ok (.iconst 3, 1) := by decide +kernel
theorem dL_law_744 : decode cL_law 744 = .ok (.iadd, 1) := by decide +kernel
theorem dL_law_745 : decode cL_law 745 = .ok (.iaload, 1) := by decide +kernel
theorem dL_law_746 : decode cL_law 746 = .ok (.invokevirtual 85, 3) := by decide +kernel
theorem dL_law_749 : decode cL_law 749 = .ok (.if_icmp .eq 5, 3) := by decide +kernel
theorem dL_law_752 : decode cL_law 752 = .ok (.iconst 0, 1) := by decide +kernel
theorem dL_law_753 : decode cL_law 753 = .ok (.ireturn, 1) := by decide +kernel
theorem dL_law_754 : decode cL_law 754 = .ok (.iinc 3 7, 3) := by decide +kernel
theorem dL_law_757 : decode cL_law 757 = .ok (.goto (-739), 3) := by decide +kernel
theorem dL_law_760 : decode cL_law 760 = .ok (.iconst 1, 1) := by decide +kernel
theorem dL_law_761 : decode cL_law 761 = .ok (.ireturn, 1) := by decide +kernel
