theorem dX10_codes_77 : decode cX10_codes 77 = .ok (.iload 4, 2) := by decide +kernel
theorem dX10_codes_79 : decode cX10_codes 79 = .ok (.if_icmp .ne 23, 3) := by decide +kernel
theorem dX10_codes_82 : decode cX10_codes 82 = .ok (.aload_n 0, 1) := by decide +kernel
theorem dX10_codes_83 : decode cX10_codes 83 = .ok (.getfield 186, 3) := by decide +kernel
theorem dX10_codes_86 : decode cX10_codes 86 = .ok (.bipush 7, 2) := by decide +kernel
theorem dX10_codes_88 : decode cX10_codes 88 = .ok (.iadd, 1) := by decide +kernel
theorem dX10_codes_89 : decode cX10_codes 89 = .ok (.iconst 3, 1) := by decide +kernel
theorem dX10_codes_90 : decode cX10_codes 90 = .ok (.ishr, 1) := by decide +kernel
theorem dX10_codes_91 : decode cX10_codes 91 = .ok (.aload_n 0, 1) := by decide +kernel
theorem dX10_codes_92 : decode cX10_codes 92 = .ok (.getfield 174, 3) := by decide +kernel
theorem dX10_codes_95 : decode cX10_codes 95 = .ok (.if_icmp .ne 7, 3) := by decide +kernel
theorem dX10_codes_98 : decode cX10_codes 98 = .ok (.iconst 1, 1) := by decide +kernel
theorem dX10_codes_99 : decode cX10_codes 99 = .ok (.goto 4, 3) := by decide +kernel
theorem dX10_codes_102 : decode cX10_codes 102 = .ok (.iconst 0, 1) := by decide +kernel
theorem dX10_codes_103 : decode cX10_codes 103 = .ok (.ireturn, 1) := by decide +kernel
theorem dX10_codes_104 : decode cX10_codes 104 = .ok (.iload 7, 2) := by decide +kernel
theorem dX10_codes_106 : decode cX10_codes 106 = .ok (.iload_n 3, 1) := by decide +kernel
theorem dX10_codes_107 : decode cX10_codes 107 = .ok (.if_icmp .ne 11, 3) := by decide +kernel
theorem dX10_codes_110 : decode cX10_codes 110 = .ok (.aload_n 0, 1) := by decide +kernel
theorem dX10_codes_111 : decode cX10_codes 111 = .ok (.iload_n 1, 1) := by decide +kernel
theorem dX10_codes_112 : decode cX10_codes 112 = .ok (.invokevirtual 199, 3) := by decide +kernel
theorem dX10_codes_115 : decode cX10_codes 115 = .ok (.goto (-61), 3) := by decide +kernel
theorem dX10_codes_118 : decode cX10_codes 118 = .ok (.iload 7, 2) := by decide +kernel
theorem dX10_codes_120 : decode cX10_codes 120 = .ok (.aload_n 0, 1) := by decide +kernel
theorem dX10_codes_121 : decode cX10_codes 121 = .ok (.getfield 180, 3) := by decide +kernel
theorem dX10_codes_124 : decode cX10_codes 124 = .ok (.if_icmp .ne 24, 3) := by decide +kernel
theorem dX10_codes_127 : decode cX10_codes 127 = .ok (.aload_n 0, 1) := by decide +kernel
theorem dX10_codes_128 : decode cX10_codes 128 = .ok (.getfield 183, 3) := by decide +kernel
theorem dX10_codes_131 : decode cX10_codes 131 = .ok (.ifCond .lt 17, 3) := by decide +kernel
theorem dX10_codes_134 : decode cX10_codes 134 = .ok (.aload_n 0, 1) := by decide +kernel
theorem dX10_codes_135 : decode cX10_codes 135 = .ok (.getfield 180, 3) := by decide +kernel
theorem dX10_codes_138 : decode cX10_codes 138 = .ok (.sipush 4096, 3) := by decide +kernel
theorem dX10_codes_141 : decode cX10_codes 141 = .ok (.if_icmp .ge 7, 3) := by decide +kernel
theorem dX10_codes_144 : decode cX10_codes 144 = .ok (.iconst 1, 1) := by decide +kernel
theorem dX10_codes_145 : decode cX10_codes 145 = .ok (.goto 4, 3) := by decide +kernel
theorem dX10_codes_148 : decode cX10_codes 148 = .ok (.iconst 0, 1) := by decide +kernel
theorem dX10_codes_149 : decode cX10_codes 149 = .ok (.istore 8, 2) := by decide +kernel
theorem dX10_codes_151 : decode cX10_codes 151 = .ok (.iload 7, 2) := by decide +kernel
theorem dX10_codes_153 : decode cX10_codes 153 = .ok (.aload_n 0, 1) := by decide +kernel
theorem dX10_codes_154 : decode cX10_codes 154 = .ok (.getfield 180, 3) := by decide +kernel
theorem dX10_codes_157 : decode cX10_codes 157 = .ok (.if_icmp .lt 10, 3) := by decide +kernel
theorem dX10_codes_160 : decode cX10_codes 160 = .ok (.iload 8, 2) := by decide +kernel
theorem dX10_codes_162 : decode cX10_codes 162 = .ok (.ifCond .ne 5, 3) := by decide +kernel
theorem dX10_codes_165 : decode cX10_codes 165 = .ok (.iconst 0, 1) := by decide +kernel
theorem dX10_codes_166 : decode cX10_codes 166 = .ok (.ireturn, 1) := by decide +kernel
theorem dX10_codes_167 : decode cX10_codes 167 = .ok (.iload 8, 2) := by decide +kernel
theorem dX10_codes_169 : decode cX10_codes 169 = .ok (.ifCond .eq 17, 3) := by decide +kernel
theorem dX10_codes_172 : decode cX10_codes 172 = .ok (.aload_n 0, 1) := by decide +kernel
theorem dX10_codes_173 : decode cX10_codes 173 = .ok (.getfield 53, 3) := by decide +kernel
theorem dX10_codes_176 : decode cX10_codes 176 = .ok (.aload_n 0, 1) := by decide +kernel
theorem dX10_codes_177 : decode cX10_codes 177 = .ok (.getfield 183, 3) := by decide +kernel
theorem dX10_codes_180 : decode cX10_codes 180 = .ok (.saload, 1) := by decide +kernel
theorem dX10_codes_181 : decode cX10_codes 181 = .ok (.iconst 1, 1) := by decide +kernel
theorem dX10_codes_182 : decode cX10_codes 182 = .ok (.iadd, 1) := by decide +kernel
theorem dX10_codes_183 : decode cX10_codes 183 = .ok (.goto 10, 3) := by decide +kernel
theorem dX10_codes_186 : decode cX10_codes 186 = .ok (.aload_n 0, 1) := by decide +kernel
theorem dX10_codes_187 : decode cX10_codes 187 = .ok (.getfield 53, 3) := by decide +kernel
theorem dX10_codes_190 : decode cX10_codes 190 = .ok (.iload 7, 2) := by decide +kernel
theorem dX10_codes_192 : decode cX10_codes 192 = .ok (.saload, 1) := by decide +kernel
theorem dX10_codes_193 : decode cX10_codes 193 = .ok (.istore 9, 2) := by decide +kernel
theorem dX10_codes_195 : decode cX10_codes 195 = .ok (.iload 6, 2) := by decide +kernel
theorem dX10_codes_197 : decode cX10_codes 197 = .ok (.iload 9, 2) := by decide +kernel
theorem dX10_codes_199 : decode cX10_codes 199 = .ok (.iadd, 1) := by decide +kernel
theorem dX10_codes_200 : decode cX10_codes 200 = .ok (.iload 4, 2) := by decide +kernel
theorem dX10_codes_202 : decode cX10_codes 202 = .ok (.if_icmp .gt 33, 3) := by decide +kernel
theorem dX10_codes_205 : decode cX10_codes 205 = .ok (.aload_n 0, 1) := by decide +kernel
theorem dX10_codes_206 : decode cX10_codes 206 = .ok (.iload 8, 2) := by decide +kernel
theorem dX10_codes_208 : decode cX10_codes 208 = .ok (.ifCond .eq 10, 3) := by decide +kernel
theorem dX10_codes_211 : decode cX10_codes 211 = .ok (.aload_n 0, 1) := by decide +kernel
theorem dX10_codes_212 : decode cX10_codes 212 = .ok (.getfield 183, 3) := by decide +kernel
theorem dX10_codes_215 : decode cX10_codes 215 = .ok (.goto 5, 3) := by decide +kernel
theorem dX10_codes_218 : decode cX10_codes 218 = .ok (.iload 7, 2) := by decide +kernel
theorem dX10_codes_220 : decode cX10_codes 220 = .ok (.iload 8, 2) := by decide +kernel
theorem dX10_codes_222 : decode cX10_codes 222 = .ok (.iload_n 2, 1) := by decide +kernel
theorem dX10_codes_223 : decode cX10_codes 223 = .ok (.iload 6, 2) := by decide +kernel
theorem dX10_codes_225 : decode cX10_codes 225 = .ok (.iload 9, 2) := by decide +kernel
theorem dX10_codes_227 : decode cX10_codes 227 = .ok (.iload 5, 2) := by decide +kernel
theorem dX10_codes_229 : decode cX10_codes 229 = .ok (.invokevirtual 205, 3) := by decide +kernel
theorem dX10_codes_232 : decode cX10_codes 232 = .ok (.ifCond .ne 5, 3) := by decide +kernel
theorem dX10_codes_235 : decode cX10_codes 235 = .ok (.iconst 0, 1) := by decide +kernel
theorem dX10_codes_236 : decode cX10_codes 236 = .ok (.ireturn, 1) := by decide +kernel
theorem dX10_codes_237 : decode cX10_codes 237 = .ok (.iload 6, 2) := by decide +kernel
theorem dX10_codes_239 : decode cX10_codes 239 = .ok (.iload 9, 2) := by decide +kernel
theorem dX10_codes_241 : decode cX10_codes 241 = .ok (.iadd, 1) := by decide +kernel
theorem dX10_codes_242 : decode cX10_codes 242 = .ok (.istore 6, 2) := by decide +kernel
theorem dX10_codes_244 : decode cX10_codes 244 = .ok (.iload 8, 2) := by decide +kernel
theorem dX10_codes_246 : decode cX10_codes 246 = .ok (.ifCond .eq 15, 3) := by decide +kernel
theorem dX10_codes_249 : decode cX10_codes 249 = .ok (.aload_n 0, 1) := by decide +kernel
theorem dX10_codes_250 : decode cX10_codes 250 = .ok (.getfield 50, 3) := by decide +kernel
theorem dX10_codes_253 : decode cX10_codes 253 = .ok (.aload_n 0, 1) := by decide +kernel
theorem dX10_codes_254 : decode cX10_codes 254 = .ok (.getfield 183, 3) := by decide +kernel
theorem dX10_codes_257 : decode cX10_codes 257 = .ok (.saload, 1) := by decide +kernel
theorem dX10_codes_258 : decode cX10_codes 258 = .ok (.goto 10, 3) := by decide +kernel
theorem dX10_codes_261 : decode cX10_codes 261 = .ok (.aload_n 0, 1) := by decide +kernel
theorem dX10_codes_262 : decode cX10_codes 262 = .ok (.getfield 50, 3) := by decide +kernel
theorem dX10_codes_265 : decode cX10_codes 265 = .ok (.iload 7, 2) := by decide +kernel
theorem dX10_codes_267 : decode cX10_codes 267 = .ok (.saload, 1) := by decide +kernel
theorem dX10_codes_268 : decode cX10_codes 268 = .ok (.istore 10, 2) := by decide +kernel
theorem dX10_codes_270 : decode cX10_codes 270 = .ok (.aload_n 0, 1) := by decide +kernel
theorem dX10_codes_271 : decode cX10_codes 271 = .ok (.getfield 183, 3) := by decide +kernel
theorem dX10_codes_274 : decode cX10_codes 274 = .ok (.ifCond .lt 19, 3) := by decide +kernel
theorem dX10_codes_277 : decode cX10_codes 277 = .ok (.aload_n 0, 1) := by decide +kernel
theorem dX10_codes_278 : decode cX10_codes 278 = .ok (.getfield 180, 3) := by decide +kernel
theorem dX10_codes_281 : decode cX10_codes 281 = .ok (.sipush 4096, 3) := by decide +kernel
theorem dX10_codes_284 : decode cX10_codes 284 = .ok (.if_icmp .ge 9, 3) := by decide +kernel
theorem dX10_codes_287 : decode cX10_codes 287 = .ok (.aload_n 0, 1) := by decide +kernel
theorem dX10_codes_288 : decode cX10_codes 288 = .ok (.iload 10, 2) := by decide +kernel
theorem dX10_codes_290 : decode cX10_codes 290 = .ok (.invokevirtual 209, 3) := by decide +kernel
theorem dX10_codes_293 : decode cX10_codes 293 = .ok (.aload_n 0, 1) := by decide +kernel
theorem dX10_codes_294 : decode cX10_codes 294 = .ok (.iload 7, 2) := by decide +kernel
theorem dX10_codes_296 : decode cX10_codes 296 = .ok (.putfield 183, 3) := by decide +kernel
theorem dX10_codes_299 : decode cX10_codes 299 = .ok (.goto (-245), 3) := by decide +kernel
theorem dX10_put_0 : decode cX10_put 0 = .ok (.iload 4, 2) := by decide +kernel
theorem dX10_put_2 : decode cX10_put 2 = .ok (.iload 5, 2) := by decide +kernel
theorem dX10_put_4 : decode cX10_put 4 = .ok (.iadd, 1) := by decide +kernel
theorem dX10_put_5 : decode cX10_put 5 = .ok (.iconst 1, 1) := by decide +kernel
theorem dX10_put_6 : decode cX10_put 6 = .ok (.isub, 1) := by decide +kernel
theorem dX10_put_7 : decode cX10_put 7 = .ok (.istore 7, 2) := by decide +kernel
theorem dX10_put_9 : decode cX10_put 9 = .ok (.iload_n 2, 1) := by decide +kernel
theorem dX10_put_10 : decode cX10_put 10 = .ok (.ifCond .eq 45, 3) := by decide +kernel
theorem dX10_put_13 : decode cX10_put 13 = .ok (.aload_n 0, 1) := by decide +kernel
theorem dX10_put_14 : decode cX10_put 14 = .ok (.getfield 50, 3) := by decide +kernel
theorem dX10_put_17 : decode cX10_put 17 = .ok (.iload_n 1, 1) := by decide +kernel
theorem dX10_put_18 : decode cX10_put 18 = .ok (.saload, 1) := by decide +kernel
theorem dX10_put_19 : decode cX10_put 19 = .ok (.iload 6, 2) := by decide +kernel
theorem dX10_put_21 : decode cX10_put 21 = .ok (.if_icmp .lt 5, 3) := by decide +kernel
theorem dX10_put_24 : decode cX10_put 24 = .ok (.iconst 0, 1) := by decide +kernel
theorem dX10_put_25 : decode cX10_put 25 = .ok (.ireturn, 1) := by decide +kernel
theorem dX10_put_26 : decode cX10_put 26 = .ok (.aload_n 0, 1) := by decide +kernel
theorem dX10_put_27 : decode cX10_put 27 = .ok (.aload_n 0, 1) := by decide +kernel
theorem dX10_put_28 : decode cX10_put 28 = .ok (.getfield 103, 3) := by decide +kernel
theorem dX10_put_31 : decode cX10_put 31 = .ok (.iload_n 3, 1) := by decide +kernel
theorem dX10_put_32 : decode cX10_put 32 = .ok (.aload_n 0, 1) := by decide +kernel
theorem dX10_put_33 : decode cX10_put 33 = .ok (.aload_n 0, 1) := by decide +kernel
theorem dX10_put_34 : decode cX10_put 34 = .ok (.getfield 103, 3) := by decide +kernel
theorem dX10_put_37 : decode cX10_put 37 = .ok (.iload_n 3, 1) := by decide +kernel
theorem dX10_put_38 : decode cX10_put 38 = .ok (.iload 7, 2) := by decide +kernel
theorem dX10_put_40 : decode cX10_put 40 = .ok (.invokevirtual 212, 3) := by decide +kernel
theorem dX10_put_43 : decode cX10_put 43 = .ok (.aload_n 0, 1) := by decide +kernel
theorem dX10_put_44 : decode cX10_put 44 = .ok (.getfield 50, 3) := by decide +kernel
theorem dX10_put_47 : decode cX10_put 47 = .ok (.iload_n 1, 1) := by decide +kernel
theorem dX10_put_48 : decode cX10_put 48 = .ok (.saload, 1) := by decide +kernel
theorem dX10_put_49 : decode cX10_put 49 = .ok (.invokevirtual 215, 3) := by decide +kernel
theorem dX10_put_52 : decode cX10_put 52 = .ok (.iinc 7 (-1), 3) := by decide +kernel
theorem dX10_put_55 : decode cX10_put 55 = .ok (.iload_n 1, 1) := by decide +kernel
theorem dX10_put_56 : decode cX10_put 56 = .ok (.istore 8, 2) := by decide +kernel
theorem dX10_put_58 : decode cX10_put 58 = .ok (.iload 8, 2) := by decide +kernel
theorem dX10_put_60 : decode cX10_put 60 = .ok (.ifCond .lt 59, 3) := by decide +kernel
theorem dX10_put_63 : decode cX10_put 63 = .ok (.aload_n 0, 1) := by decide +kernel
theorem dX10_put_64 : decode cX10_put 64 = .ok (.getfield 47, 3) := by decide +kernel
theorem dX10_put_67 : decode cX10_put 67 = .ok (.iload 8, 2) := by decide +kernel
theorem dX10_put_69 : decode cX10_put 69 = .ok (.saload, 1) := by decide +kernel
theorem dX10_put_70 : decode cX10_put 70 = .ok (.iload 6, 2) := by decide +kernel
theorem dX10_put_72 : decode cX10_put 72 = .ok (.if_icmp .lt 5, 3) := by decide +kernel
theorem dX10_put_75 : decode cX10_put 75 = .ok (.iconst 0, 1) := by decide +kernel
theorem dX10_put_76 : decode cX10_put 76 = .ok (.ireturn, 1) := by decide +kernel
theorem dX10_put_77 : decode cX10_put 77 = .ok (.aload_n 0, 1) := by decide +kernel
theorem dX10_put_78 : decode cX10_put 78 = .ok (.aload_n 0, 1) := by decide +kernel
theorem dX10_put_79 : decode cX10_put 79 = .ok (.getfield 103, 3) := by decide +kernel
theorem dX10_put_82 : decode cX10_put 82 = .ok (.iload_n 3, 1) := by decide +kernel
theorem dX10_put_83 : decode cX10_put 83 = .ok (.aload_n 0, 1) := by decide +kernel
theorem dX10_put_84 : decode cX10_put 84 = .ok (.aload_n 0, 1) := by decide +kernel
theorem dX10_put_85 : decode cX10_put 85 = .ok (.getfield 103, 3) := by decide +kernel
theorem dX10_put_88 : decode cX10_put 88 = .ok (.iload_n 3, 1) := by decide +kernel
theorem dX10_put_89 : decode cX10_put 89 = .ok (.iload 7, 2) := by decide +kernel
theorem dX10_put_91 : decode cX10_put 91 = .ok (.invokevirtual 212, 3) := by decide +kernel
theorem dX10_put_94 : decode cX10_put 94 = .ok (.aload_n 0, 1) := by decide +kernel
theorem dX10_put_95 : decode cX10_put 95 = .ok (.getfield 47, 3) := by decide +kernel
theorem dX10_put_98 : decode cX10_put 98 = .ok (.iload 8, 2) := by decide +kernel
theorem dX10_put_100 : decode cX10_put 100 = .ok (.saload, 1) := by decide +kernel
theorem dX10_put_101 : decode cX10_put 101 = .ok (.invokevirtual 215, 3) := by decide +kernel
theorem dX10_put_104 : decode cX10_put 104 = .ok (.iinc 7 (-1), 3) := by decide +kernel
theorem dX10_put_107 : decode cX10_put 107 = .ok (.aload_n 0, 1) := by decide +kernel
theorem dX10_put_108 : decode cX10_put 108 = .ok (.getfield 44, 3) := by decide +kernel
theorem dX10_put_111 : decode cX10_put 111 = .ok (.iload 8, 2) := by decide +kernel
theorem dX10_put_113 : decode cX10_put 113 = .ok (.saload, 1) := by decide +kernel
theorem dX10_put_114 : decode cX10_put 114 = .ok (.istore 8, 2) := by decide +kernel
theorem dX10_put_116 : decode cX10_put 116 = .ok (.goto (-58), 3) := by decide +kernel
theorem dX10_put_119 : decode cX10_put 119 = .ok (.iconst 1, 1) := by decide +kernel
theorem dX10_put_120 : decode cX10_put 120 = .ok (.ireturn, 1) := by decide +kernel
theorem dX10_placeOf_0 : decode cX10_placeOf 0 = .ok (.aload_n 0, 1) := by decide +kernel
theorem dX10_placeOf_1 : decode cX10_placeOf 1 = .ok (.iload_n 1, 1) := by decide +kernel
theorem dX10_placeOf_2 : decode cX10_placeOf 2 = .ok (.iload_n 2, 1) := by decide +kernel
theorem dX10_placeOf_3 : decode cX10_placeOf 3 = .ok (.iconst 2, 1) := by decide +kernel
theorem dX10_placeOf_4 : decode cX10_placeOf 4 = .ok (.invokevirtual 73, 3) := by decide +kernel
theorem dX10_placeOf_7 : decode cX10_placeOf 7 = .ok (.istore 4, 2) := by decide +kernel
theorem dX10_placeOf_9 : decode cX10_placeOf 9 = .ok (.aload_n 0, 1) := by decide +kernel
theorem dX10_placeOf_10 : decode cX10_placeOf 10 = .ok (.iload_n 1, 1) := by decide +kernel
theorem dX10_placeOf_11 : decode cX10_placeOf 11 = .ok (.iload_n 2, 1) := by decide +kernel
theorem dX10_placeOf_12 : decode cX10_placeOf 12 = .ok (.iconst 5, 1) := by decide +kernel
theorem dX10_placeOf_13 : decode cX10_placeOf 13 = .ok (.invokevirtual 73, 3) := by decide +kernel
theorem dX10_placeOf_16 : decode cX10_placeOf 16 = .ok (.ifCond .ne 5, 3) := by decide +kernel
theorem dX10_placeOf_19 : decode cX10_placeOf 19 = .ok (.iload_n 3, 1) := by decide +kernel
theorem dX10_placeOf_20 : decode cX10_placeOf 20 = .ok (.ireturn, 1) := by decide +kernel
theorem dX10_placeOf_21 : decode cX10_placeOf 21 = .ok (.iload 4, 2) := by decide +kernel
theorem dX10_placeOf_23 : decode cX10_placeOf 23 = .ok (.iload_n 3, 1) := by decide +kernel
theorem dX10_placeOf_24 : decode cX10_placeOf 24 = .ok (.iload 4, 2) := by decide +kernel
theorem dX10_placeOf_26 : decode cX10_placeOf 26 = .ok (.idiv, 1) := by decide +kernel
theorem dX10_placeOf_27 : decode cX10_placeOf 27 = .ok (.aload_n 0, 1) := by decide +kernel
theorem dX10_placeOf_28 : decode cX10_placeOf 28 = .ok (.iload_n 1, 1) := by decide +kernel
theorem dX10_placeOf_29 : decode cX10_placeOf 29 = .ok (.iload_n 2, 1) := by decide +kernel
theorem dX10_placeOf_30 : decode cX10_placeOf 30 = .ok (.iconst 3, 1) := by decide +kernel
theorem dX10_placeOf_31 : decode cX10_placeOf 31 = .ok (.invokevirtual 73, 3) := by decide +kernel
theorem dX10_placeOf_34 : decode cX10_placeOf 34 = .ok (.invokestatic 218, 3) := by decide +kernel
theorem dX10_placeOf_37 : decode cX10_placeOf 37 = .ok (.imul, 1) := by decide +kernel
theorem dX10_placeOf_38 : decode cX10_placeOf 38 = .ok (.iload_n 3, 1) := by decide +kernel
theorem dX10_placeOf_39 : decode cX10_placeOf 39 = .ok (.iload 4, 2) := by decide +kernel
theorem dX10_placeOf_41 : decode cX10_placeOf 41 = .ok (.irem, 1) := by decide +kernel
theorem dX10_placeOf_42 : decode cX10_placeOf 42 = .ok (.iadd, 1) := by decide +kernel
theorem dX10_placeOf_43 : decode cX10_placeOf 43 = .ok (.ireturn, 1) := by decide +kernel
theorem dX10_line_0 : decode cX10_line 0 = .ok (.iload_n 1, 1) := by decide +kernel
theorem dX10_line_1 : decode cX10_line 1 = .ok (.bipush 7, 2) := by decide +kernel
theorem dX10_line_3 : decode cX10_line 3 = .ok (.iadd, 1) := by decide +kernel
theorem dX10_line_4 : decode cX10_line 4 = .ok (.bipush 8, 2) := by decide +kernel
theorem dX10_line_6 : decode cX10_line 6 = .ok (.idiv, 1) := by decide +kernel
theorem dX10_line_7 : decode cX10_line 7 = .ok (.istore_n 2, 1) := by decide +kernel
theorem dX10_line_8 : decode cX10_line 8 = .ok (.iload_n 1, 1) := by decide +kernel
theorem dX10_line_9 : decode cX10_line 9 = .ok (.iconst 3, 1) := by decide +kernel
theorem dX10_line_10 : decode cX10_line 10 = .ok (.iadd, 1) := by decide +kernel
theorem dX10_line_11 : decode cX10_line 11 = .ok (.bipush 8, 2) := by decide +kernel
theorem dX10_line_13 : decode cX10_line 13 = .ok (.idiv, 1) := by decide +kernel
theorem dX10_line_14 : decode cX10_line 14 = .ok (.istore_n 3, 1) := by decide +kernel
theorem dX10_line_15 : decode cX10_line 15 = .ok (.iload_n 1, 1) := by decide +kernel
theorem dX10_line_16 : decode cX10_line 16 = .ok (.iconst 1, 1) := by decide +kernel
theorem dX10_line_17 : decode cX10_line 17 = .ok (.iadd, 1) := by decide +kernel
theorem dX10_line_18 : decode cX10_line 18 = .ok (.iconst 4, 1) := by decide +kernel
theorem dX10_line_19 : decode cX10_line 19 = .ok (.idiv, 1) := by decide +kernel
theorem dX10_line_20 : decode cX10_line 20 = .ok (.istore 4, 2) := by decide +kernel
theorem dX10_line_22 : decode cX10_line 22 = .ok (.iload_n 0, 1) := by decide +kernel
theorem dX10_line_23 : decode cX10_line 23 = .ok (.iload_n 2, 1) := by decide +kernel
theorem dX10_line_24 : decode cX10_line 24 = .ok (.if_icmp .ge 8, 3) := by decide +kernel
theorem dX10_line_27 : decode cX10_line 27 = .ok (.bipush 8, 2) := by decide +kernel
theorem dX10_line_29 : decode cX10_line 29 = .ok (.iload_n 0, 1) := by decide +kernel
theorem dX10_line_30 : decode cX10_line 30 = .ok (.imul, 1) := by decide +kernel
theorem dX10_line_31 : decode cX10_line 31 = .ok (.ireturn, 1) := by decide +kernel
theorem dX10_line_32 : decode cX10_line 32 = .ok (.iload_n 0, 1) := by decide +kernel
theorem dX10_line_33 : decode cX10_line 33 = .ok (.iload_n 2, 1) := by decide +kernel
theorem dX10_line_34 : decode cX10_line 34 = .ok (.iload_n 3, 1) := by decide +kernel
theorem dX10_line_35 : decode cX10_line 35 = .ok (.iadd, 1) := by decide +kernel
theorem dX10_line_36 : decode cX10_line 36 = .ok (.if_icmp .ge 12, 3) := by decide +kernel
theorem dX10_line_39 : decode cX10_line 39 = .ok (.iconst 4, 1) := by decide +kernel
theorem dX10_line_40 : decode cX10_line 40 = .ok (.bipush 8, 2) := by decide +kernel
theorem dX10_line_42 : decode cX10_line 42 = .ok (.iload_n 0, 1) := by decide +kernel
theorem dX10_line_43 : decode cX10_line 43 = .ok (.iload_n 2, 1) := by decide +kernel
theorem dX10_line_44 : decode cX10_line 44 = .ok (.isub, 1) := by decide +kernel
theorem dX10_line_45 : decode cX10_line 45 = .ok (.imul, 1) := by decide +kernel
theorem dX10_line_46 : decode cX10_line 46 = .ok (.iadd, 1) := by decide +kernel
theorem dX10_line_47 : decode cX10_line 47 = .ok (.ireturn, 1) := by decide +kernel
theorem dX10_line_48 : decode cX10_line 48 = .ok (.iload_n 0, 1) := by decide +kernel
theorem dX10_line_49 : decode cX10_line 49 = .ok (.iload_n 2, 1) := by decide +kernel
theorem dX10_line_50 : decode cX10_line 50 = .ok (.iload_n 3, 1) := by decide +kernel
theorem dX10_line_51 : decode cX10_line 51 = .ok (.iadd, 1) := by decide +kernel
theorem dX10_line_52 : decode cX10_line 52 = .ok (.iload 4, 2) := by decide +kernel
theorem dX10_line_54 : decode cX10_line 54 = .ok (.iadd, 1) := by decide +kernel
theorem dX10_line_55 : decode cX10_line 55 = .ok (.if_icmp .ge 13, 3) := by decide +kernel
theorem dX10_line_58 : decode cX10_line 58 = .ok (.iconst 2, 1) := by decide +kernel
theorem dX10_line_59 : decode cX10_line 59 = .ok (.iconst 4, 1) := by decide +kernel
theorem dX10_line_60 : decode cX10_line 60 = .ok (.iload_n 0, 1) := by decide +kernel
theorem dX10_line_61 : decode cX10_line 61 = .ok (.iload_n 2, 1) := by decide +kernel
theorem dX10_line_62 : decode cX10_line 62 = .ok (.isub, 1) := by decide +kernel
theorem dX10_line_63 : decode cX10_line 63 = .ok (.iload_n 3, 1) := by decide +kernel
theorem dX10_line_64 : decode cX10_line 64 = .ok (.isub, 1) := by decide +kernel
theorem dX10_line_65 : decode cX10_line 65 = .ok (.imul, 1) := by decide +kernel
theorem dX10_line_66 : decode cX10_line 66 = .ok (.iadd, 1) := by decide +kernel
theorem dX10_line_67 : decode cX10_line 67 = .ok (.ireturn, 1) := by decide +kernel
theorem dX10_line_68 : decode cX10_line 68 = .ok (.iconst 1, 1) := by decide +kernel
theorem dX10_line_69 : decode cX10_line 69 = .ok (.iconst 2, 1) := by decide +kernel
theorem dX10_line_70 : decode cX10_line 70 = .ok (.iload_n 0, 1) := by decide +kernel
theorem dX10_line_71 : decode cX10_line 71 = .ok (.iload_n 2, 1) := by decide +kernel
theorem dX10_line_72 : decode cX10_line 72 = .ok (.isub, 1) := by decide +kernel
theorem dX10_line_73 : decode cX10_line 73 = .ok (.iload_n 3, 1) := by decide +kernel
theorem dX10_line_74 : decode cX10_line 74 = .ok (.isub, 1) := by decide +kernel
theorem dX10_line_75 : decode cX10_line 75 = .ok (.iload 4, 2) := by decide +kernel
theorem dX10_line_77 : decode cX10_line 77 = .ok (.isub, 1) := by decide +kernel
theorem dX10_line_78 : decode cX10_line 78 = .ok (.imul, 1) := by decide +kernel
theorem dX10_line_79 : decode cX10_line 79 = .ok (.iadd, 1) := by decide +kernel
theorem dX10_line_80 : decode cX10_line 80 = .ok (.ireturn, 1) := by decide +kernel
theorem dX10_fault_0 : decode cX10_fault 0 = .ok (.iload_n 1, 1) := by decide +kernel
theorem dX10_fault_1 : decode cX10_fault 1 = .ok (.ifCond .ne 10, 3) := by decide +kernel
theorem dX10_fault_4 : decode cX10_fault 4 = .ok (.aload_n 0, 1) := by decide +kernel
theorem dX10_fault_5 : decode cX10_fault 5 = .ok (.getfield 16, 3) := by decide +kernel
theorem dX10_fault_8 : decode cX10_fault 8 = .ok (.goto 16, 3) := by decide +kernel
theorem dX10_fault_11 : decode cX10_fault 11 = .ok (.iload_n 1, 1) := by decide +kernel
theorem dX10_fault_12 : decode cX10_fault 12 = .ok (.iconst 1, 1) := by decide +kernel
theorem dX10_fault_13 : decode cX10_fault 13 = .ok (.if_icmp .ne 10, 3) := by decide +kernel
theorem dX10_fault_16 : decode cX10_fault 16 = .ok (.aload_n 0, 1) := by decide +kernel
theorem dX10_fault_17 : decode cX10_fault 17 = .ok (.getfield 20, 3) := by decide +kernel
theorem dX10_fault_20 : decode cX10_fault 20 = .ok (.goto 4, 3) := by decide +kernel
theorem dX10_fault_23 : decode cX10_fault 23 = .ok (.iconst (-1), 1) := by decide +kernel
theorem dX10_fault_24 : decode cX10_fault 24 = .ok (.ireturn, 1) := by decide +kernel
theorem dX10_isTable_0 : decode cX10_isTable 0 = .ok (.iload_n 0, 1) := by decide +kernel
theorem dX10_isTable_1 : decode cX10_isTable 1 = .ok (.ifCond .eq 23, 3) := by decide +kernel
theorem dX10_isTable_4 : decode cX10_isTable 4 = .ok (.iload_n 0, 1) := by decide +kernel
theorem dX10_isTable_5 : decode cX10_isTable 5 = .ok (.iconst 2, 1) := by decide +kernel
theorem dX10_isTable_6 : decode cX10_isTable 6 = .ok (.if_icmp .lt 22, 3) := by decide +kernel
theorem dX10_isTable_9 : decode cX10_isTable 9 = .ok (.iload_n 0, 1) := by decide +kernel
theorem dX10_isTable_10 : decode cX10_isTable 10 = .ok (.sipush 256, 3) := by decide +kernel
theorem dX10_isTable_13 : decode cX10_isTable 13 = .ok (.if_icmp .gt 15, 3) := by decide +kernel
theorem dX10_isTable_16 : decode cX10_isTable 16 = .ok (.iload_n 0, 1) := by decide +kernel
theorem dX10_isTable_17 : decode cX10_isTable 17 = .ok (.iload_n 0, 1) := by decide +kernel
theorem dX10_isTable_18 : decode cX10_isTable 18 = .ok (.iconst 1, 1) := by decide +kernel
theorem dX10_isTable_19 : decode cX10_isTable 19 = .ok (.isub, 1) := by decide +kernel
theorem dX10_isTable_20 : decode cX10_isTable 20 = .ok (.iand, 1) := by decide +kernel
theorem dX10_isTable_21 : decode cX10_isTable 21 = .ok (.ifCond .ne 7, 3) := by decide +kernel
theorem dX10_isTable_24 : decode cX10_isTable 24 = .ok (.iconst 1, 1) := by decide +kernel
theorem dX10_isTable_25 : decode cX10_isTable 25 = .ok (.goto 4, 3) := by decide +kernel
theorem dX10_isTable_28 : decode cX10_isTable 28 = .ok (.iconst 0, 1) := by decide +kernel
theorem dX10_isTable_29 : decode cX10_isTable 29 = .ok (.ireturn, 1) := by decide +kernel
theorem dX10_isWithin_0 : decode cX10_isWithin 0 = .ok (.iload_n 0, 1) := by decide +kernel
theorem dX10_isWithin_1 : decode cX10_isWithin 1 = .ok (.iload_n 1, 1) := by decide +kernel
theorem dX10_isWithin_2 : decode cX10_isWithin 2 = .ok (.if_icmp .lt 12, 3) := by decide +kernel
theorem dX10_isWithin_5 : decode cX10_isWithin 5 = .ok (.iload_n 0, 1) := by decide +kernel
theorem dX10_isWithin_6 : decode cX10_isWithin 6 = .ok (.iload_n 2, 1) := by decide +kernel
theorem dX10_isWithin_7 : decode cX10_isWithin 7 = .ok (.if_icmp .gt 7, 3) := by decide +kernel
theorem dX10_isWithin_10 : decode cX10_isWithin 10 = .ok (.iconst 1, 1) := by decide +kernel
theorem dX10_isWithin_11 : decode cX10_isWithin 11 = .ok (.goto 4, 3) := by decide +kernel
theorem dX10_isWithin_14 : decode cX10_isWithin 14 = .ok (.iconst 0, 1) := by decide +kernel
theorem dX10_isWithin_15 : decode cX10_isWithin 15 = .ok (.ireturn, 1) := by decide +kernel
theorem dX10_begin_0 : decode cX10_begin 0 = .ok (.iload_n 1, 1) := by decide +kernel
theorem dX10_begin_1 : decode cX10_begin 1 = .ok (.iconst 1, 1) := by decide +kernel
theorem dX10_begin_2 : decode cX10_begin 2 = .ok (.bipush 64, 2) := by decide +kernel
theorem dX10_begin_4 : decode cX10_begin 4 = .ok (.invokestatic 221, 3) := by decide +kernel
theorem dX10_begin_7 : decode cX10_begin 7 = .ok (.ifCond .eq 32, 3) := by decide +kernel
theorem dX10_begin_10 : decode cX10_begin 10 = .ok (.iload_n 2, 1) := by decide +kernel
theorem dX10_begin_11 : decode cX10_begin 11 = .ok (.iconst 1, 1) := by decide +kernel
theorem dX10_begin_12 : decode cX10_begin 12 = .ok (.bipush 64, 2) := by decide +kernel
theorem dX10_begin_14 : decode cX10_begin 14 = .ok (.invokestatic 221, 3) := by decide +kernel
theorem dX10_begin_17 : decode cX10_begin 17 = .ok (.ifCond .eq 22, 3) := by decide +kernel
theorem dX10_begin_20 : decode cX10_begin 20 = .ok (.iload_n 3, 1) := by decide +kernel
theorem dX10_begin_21 : decode cX10_begin 21 = .ok (.invokestatic 225, 3) := by decide +kernel
theorem dX10_begin_24 : decode cX10_begin 24 = .ok (.ifCond .eq 15, 3) := by decide +kernel
theorem dX10_begin_27 : decode cX10_begin 27 = .ok (.iload 4, 2) := by decide +kernel
theorem dX10_begin_29 : decode cX10_begin 29 = .ok (.iconst 0, 1) := by decide +kernel
theorem dX10_begin_30 : decode cX10_begin 30 = .ok (.sipush 255, 3) := by decide +kernel
theorem dX10_begin_33 : decode cX10_begin 33 = .ok (.invokestatic 221, 3) := by decide +kernel
theorem dX10_begin_36 : decode cX10_begin 36 = .ok (.ifCond .ne 5, 3) := by decide +kernel
theorem dX10_begin_39 : decode cX10_begin 39 = .ok (.iconst 0, 1) := by decide +kernel
theorem dX10_begin_40 : decode cX10_begin 40 = .ok (.ireturn, 1) := by decide +kernel
theorem dX10_begin_41 : decode cX10_begin 41 = .ok (.aload_n 0, 1) := by decide +kernel
theorem dX10_begin_42 : decode cX10_begin 42 = .ok (.getfield 23, 3) := by decide +kernel
theorem dX10_begin_45 : decode cX10_begin 45 = .ok (.bipush 6, 2) := by decide +kernel
theorem dX10_begin_47 : decode cX10_begin 47 = .ok (.aload_n 0, 1) := by decide +kernel
theorem dX10_begin_48 : decode cX10_begin 48 = .ok (.getfield 66, 3) := by decide +kernel
theorem dX10_begin_51 : decode cX10_begin 51 = .ok (.imul, 1) := by decide +kernel
theorem dX10_begin_52 : decode cX10_begin 52 = .ok (.iload_n 1, 1) := by decide +kernel
theorem dX10_begin_53 : decode cX10_begin 53 = .ok (.iastore, 1) := by decide +kernel
theorem dX10_begin_54 : decode cX10_begin 54 = .ok (.aload_n 0, 1) := by decide +kernel
theorem dX10_begin_55 : decode cX10_begin 55 = .ok (.getfield 23, 3) := by decide +kernel
theorem dX10_begin_58 : decode cX10_begin 58 = .ok (.bipush 6, 2) := by decide +kernel
theorem dX10_begin_60 : decode cX10_begin 60 = .ok (.aload_n 0, 1) := by decide +kernel
theorem dX10_begin_61 : decode cX10_begin 61 = .ok (.getfield 66, 3) := by decide +kernel
theorem dX10_begin_64 : decode cX10_begin 64 = .ok (.imul, 1) := by decide +kernel
theorem dX10_begin_65 : decode cX10_begin 65 = .ok (.iconst 1, 1) := by decide +kernel
theorem dX10_begin_66 : decode cX10_begin 66 = .ok (.iadd, 1) := by decide +kernel
theorem dX10_begin_67 : decode cX10_begin 67 = .ok (.iload_n 2, 1) := by decide +kernel
theorem dX10_begin_68 : decode cX10_begin 68 = .ok (.iastore, 1) := by decide +kernel
theorem dX10_begin_69 : decode cX10_begin 69 = .ok (.aload_n 0, 1) := by decide +kernel
theorem dX10_begin_70 : decode cX10_begin 70 = .ok (.getfield 23, 3) := by decide +kernel
theorem dX10_begin_73 : decode cX10_begin 73 = .ok (.bipush 6, 2) := by decide +kernel
theorem dX10_begin_75 : decode cX10_begin 75 = .ok (.aload_n 0, 1) := by decide +kernel
theorem dX10_begin_76 : decode cX10_begin 76 = .ok (.getfield 66, 3) := by decide +kernel
theorem dX10_begin_79 : decode cX10_begin 79 = .ok (.imul, 1) := by decide +kernel
theorem dX10_begin_80 : decode cX10_begin 80 = .ok (.iconst 2, 1) := by decide +kernel
theorem dX10_begin_81 : decode cX10_begin 81 = .ok (.iadd, 1) := by decide +kernel
theorem dX10_begin_82 : decode cX10_begin 82 = .ok (.iload_n 3, 1) := by decide +kernel
theorem dX10_begin_83 : decode cX10_begin 83 = .ok (.iastore, 1) := by decide +kernel
theorem dX10_begin_84 : decode cX10_begin 84 = .ok (.aload_n 0, 1) := by decide +kernel
theorem dX10_begin_85 : decode cX10_begin 85 = .ok (.getfield 23, 3) := by decide +kernel
theorem dX10_begin_88 : decode cX10_begin 88 = .ok (.bipush 6, 2) := by decide +kernel
theorem dX10_begin_90 : decode cX10_begin 90 = .ok (.aload_n 0, 1) := by decide +kernel
theorem dX10_begin_91 : decode cX10_begin 91 = .ok (.getfield 66, 3) := by decide +kernel
theorem dX10_begin_94 : decode cX10_begin 94 = .ok (.imul, 1) := by decide +kernel
theorem dX10_begin_95 : decode cX10_begin 95 = .ok (.iconst 3, 1) := by decide +kernel
theorem dX10_begin_96 : decode cX10_begin 96 = .ok (.iadd, 1) := by decide +kernel
theorem dX10_begin_97 : decode cX10_begin 97 = .ok (.iload 4, 2) := by decide +kernel
theorem dX10_begin_99 : decode cX10_begin 99 = .ok (.iastore, 1) := by decide +kernel
theorem dX10_begin_100 : decode cX10_begin 100 = .ok (.aload_n 0, 1) := by decide +kernel
theorem dX10_begin_101 : decode cX10_begin 101 = .ok (.getfield 23, 3) := by decide +kernel
theorem dX10_begin_104 : decode cX10_begin 104 = .ok (.bipush 6, 2) := by decide +kernel
theorem dX10_begin_106 : decode cX10_begin 106 = .ok (.aload_n 0, 1) := by decide +kernel
theorem dX10_begin_107 : decode cX10_begin 107 = .ok (.getfield 66, 3) := by decide +kernel
theorem dX10_begin_110 : decode cX10_begin 110 = .ok (.imul, 1) := by decide +kernel
theorem dX10_begin_111 : decode cX10_begin 111 = .ok (.iconst 4, 1) := by decide +kernel
theorem dX10_begin_112 : decode cX10_begin 112 = .ok (.iadd, 1) := by decide +kernel
theorem dX10_begin_113 : decode cX10_begin 113 = .ok (.iconst 0, 1) := by decide +kernel
theorem dX10_begin_114 : decode cX10_begin 114 = .ok (.iastore, 1) := by decide +kernel
theorem dX10_begin_115 : decode cX10_begin 115 = .ok (.aload_n 0, 1) := by decide +kernel
theorem dX10_begin_116 : decode cX10_begin 116 = .ok (.getfield 23, 3) := by decide +kernel
theorem dX10_begin_119 : decode cX10_begin 119 = .ok (.bipush 6, 2) := by decide +kernel
theorem dX10_begin_121 : decode cX10_begin 121 = .ok (.aload_n 0, 1) := by decide +kernel
theorem dX10_begin_122 : decode cX10_begin 122 = .ok (.getfield 66, 3) := by decide +kernel
theorem dX10_begin_125 : decode cX10_begin 125 = .ok (.imul, 1) := by decide +kernel
theorem dX10_begin_126 : decode cX10_begin 126 = .ok (.iconst 5, 1) := by decide +kernel
theorem dX10_begin_127 : decode cX10_begin 127 = .ok (.iadd, 1) := by decide +kernel
theorem dX10_begin_128 : decode cX10_begin 128 = .ok (.iconst 0, 1) := by decide +kernel
theorem dX10_begin_129 : decode cX10_begin 129 = .ok (.iastore, 1) := by decide +kernel
theorem dX10_begin_130 : decode cX10_begin 130 = .ok (.iconst 0, 1) := by decide +kernel
theorem dX10_begin_131 : decode cX10_begin 131 = .ok (.istore 5, 2) := by decide +kernel
theorem dX10_begin_133 : decode cX10_begin 133 = .ok (.iload 5, 2) := by decide +kernel
theorem dX10_begin_135 : decode cX10_begin 135 = .ok (.sipush 256, 3) := by decide +kernel
theorem dX10_begin_138 : decode cX10_begin 138 = .ok (.if_icmp .ge 26, 3) := by decide +kernel
theorem dX10_begin_141 : decode cX10_begin 141 = .ok (.aload_n 0, 1) := by decide +kernel
theorem dX10_begin_142 : decode cX10_begin 142 = .ok (.getfield 27, 3) := by decide +kernel
theorem dX10_begin_145 : decode cX10_begin 145 = .ok (.sipush 256, 3) := by decide +kernel
theorem dX10_begin_148 : decode cX10_begin 148 = .ok (.aload_n 0, 1) := by decide +kernel
theorem dX10_begin_149 : decode cX10_begin 149 = .ok (.getfield 66, 3) := by decide +kernel
theorem dX10_begin_152 : decode cX10_begin 152 = .ok (.imul, 1) := by decide +kernel
theorem dX10_begin_153 : decode cX10_begin 153 = .ok (.iload 5, 2) := by decide +kernel
theorem dX10_begin_155 : decode cX10_begin 155 = .ok (.iadd, 1) := by decide +kernel
theorem dX10_begin_156 : decode cX10_begin 156 = .ok (.iconst 0, 1) := by decide +kernel
theorem dX10_begin_157 : decode cX10_begin 157 = .ok (.iastore, 1) := by decide +kernel
theorem dX10_begin_158 : decode cX10_begin 158 = .ok (.iinc 5 1, 3) := by decide +kernel
theorem dX10_begin_161 : decode cX10_begin 161 = .ok (.goto (-28), 3) := by decide +kernel
theorem dX10_begin_164 : decode cX10_begin 164 = .ok (.iconst 1, 1) := by decide +kernel
theorem dX10_begin_165 : decode cX10_begin 165 = .ok (.ireturn, 1) := by decide +kernel
theorem dX10_isColour_0 : decode cX10_isColour 0 = .ok (.iload_n 1, 1) := by decide +kernel
theorem dX10_isColour_1 : decode cX10_isColour 1 = .ok (.iconst (-1), 1) := by decide +kernel
theorem dX10_isColour_2 : decode cX10_isColour 2 = .ok (.if_icmp .eq 13, 3) := by decide +kernel
theorem dX10_isColour_5 : decode cX10_isColour 5 = .ok (.aload_n 0, 1) := by decide +kernel
theorem dX10_isColour_6 : decode cX10_isColour 6 = .ok (.iload_n 1, 1) := by decide +kernel
theorem dX10_isColour_7 : decode cX10_isColour 7 = .ok (.invokevirtual 229, 3) := by decide +kernel
theorem dX10_isColour_10 : decode cX10_isColour 10 = .ok (.ifCond .ne 5, 3) := by decide +kernel
theorem dX10_isColour_13 : decode cX10_isColour 13 = .ok (.iconst 0, 1) := by decide +kernel
theorem dX10_isColour_14 : decode cX10_isColour 14 = .ok (.ireturn, 1) := by decide +kernel
theorem dX10_isColour_15 : decode cX10_isColour 15 = .ok (.iload_n 2, 1) := by decide +kernel
theorem dX10_isColour_16 : decode cX10_isColour 16 = .ok (.ifCond .lt 43, 3) := by decide +kernel
theorem dX10_isColour_19 : decode cX10_isColour 19 = .ok (.iload_n 2, 1) := by decide +kernel
theorem dX10_isColour_20 : decode cX10_isColour 20 = .ok (.iload_n 1, 1) := by decide +kernel
theorem dX10_isColour_21 : decode cX10_isColour 21 = .ok (.iconst (-1), 1) := by decide +kernel
theorem dX10_isColour_22 : decode cX10_isColour 22 = .ok (.if_icmp .ne 20, 3) := by decide +kernel
theorem dX10_isColour_25 : decode cX10_isColour 25 = .ok (.aload_n 0, 1) := by decide +kernel
theorem dX10_isColour_26 : decode cX10_isColour 26 = .ok (.getfield 23, 3) := by decide +kernel
theorem dX10_isColour_29 : decode cX10_isColour 29 = .ok (.bipush 6, 2) := by decide +kernel
theorem dX10_isColour_31 : decode cX10_isColour 31 = .ok (.aload_n 0, 1) := by decide +kernel
theorem dX10_isColour_32 : decode cX10_isColour 32 = .ok (.getfield 66, 3) := by decide +kernel
theorem dX10_isColour_35 : decode cX10_isColour 35 = .ok (.imul, 1) := by decide +kernel
theorem dX10_isColour_36 : decode cX10_isColour 36 = .ok (.iconst 2, 1) := by decide +kernel
theorem dX10_isColour_37 : decode cX10_isColour 37 = .ok (.iadd, 1) := by decide +kernel
theorem dX10_isColour_38 : decode cX10_isColour 38 = .ok (.iaload, 1) := by decide +kernel
theorem dX10_isColour_39 : decode cX10_isColour 39 = .ok (.goto 13, 3) := by decide +kernel
theorem dX10_isColour_42 : decode cX10_isColour 42 = .ok (.aload_n 0, 1) := by decide +kernel
theorem dX10_isColour_43 : decode cX10_isColour 43 = .ok (.aload_n 0, 1) := by decide +kernel
theorem dX10_isColour_44 : decode cX10_isColour 44 = .ok (.getfield 66, 3) := by decide +kernel
theorem dX10_isColour_47 : decode cX10_isColour 47 = .ok (.iload_n 1, 1) := by decide +kernel
theorem dX10_isColour_48 : decode cX10_isColour 48 = .ok (.iconst 4, 1) := by decide +kernel
theorem dX10_isColour_49 : decode cX10_isColour 49 = .ok (.invokevirtual 73, 3) := by decide +kernel
theorem dX10_isColour_52 : decode cX10_isColour 52 = .ok (.if_icmp .ge 7, 3) := by decide +kernel
theorem dX10_isColour_55 : decode cX10_isColour 55 = .ok (.iconst 1, 1) := by decide +kernel
theorem dX10_isColour_56 : decode cX10_isColour 56 = .ok (.goto 4, 3) := by decide +kernel
theorem dX10_isColour_59 : decode cX10_isColour 59 = .ok (.iconst 0, 1) := by decide +kernel
theorem dX10_isColour_60 : decode cX10_isColour 60 = .ok (.ireturn, 1) := by decide +kernel
theorem dX10_colour_0 : decode cX10_colour 0 = .ok (.aload_n 0, 1) := by decide +kernel
theorem dX10_colour_1 : decode cX10_colour 1 = .ok (.iload_n 1, 1) := by decide +kernel
theorem dX10_colour_2 : decode cX10_colour 2 = .ok (.iload_n 2, 1) := by decide +kernel
theorem dX10_colour_3 : decode cX10_colour 3 = .ok (.invokevirtual 232, 3) := by decide +kernel
theorem dX10_colour_6 : decode cX10_colour 6 = .ok (.ifCond .eq 13, 3) := by decide +kernel
theorem dX10_colour_9 : decode cX10_colour 9 = .ok (.iload_n 3, 1) := by decide +kernel
theorem dX10_colour_10 : decode cX10_colour 10 = .ok (.iconst 0, 1) := by decide +kernel
theorem dX10_colour_11 : decode cX10_colour 11 = .ok (.ldc 235, 2) := by decide +kernel
theorem dX10_colour_13 : decode cX10_colour 13 = .ok (.invokestatic 221, 3) := by decide +kernel
theorem dX10_colour_16 : decode cX10_colour 16 = .ok (.ifCond .ne 5, 3) := by decide +kernel
theorem dX10_colour_19 : decode cX10_colour 19 = .ok (.iconst 0, 1) := by decide +kernel
theorem dX10_colour_20 : decode cX10_colour 20 = .ok (.ireturn, 1) := by decide +kernel
theorem dX10_colour_21 : decode cX10_colour 21 = .ok (.iload_n 1, 1) := by decide +kernel
theorem dX10_colour_22 : decode cX10_colour 22 = .ok (.iconst (-1), 1) := by decide +kernel
theorem dX10_colour_23 : decode cX10_colour 23 = .ok (.if_icmp .ne 22, 3) := by decide +kernel
theorem dX10_colour_26 : decode cX10_colour 26 = .ok (.aload_n 0, 1) := by decide +kernel
theorem dX10_colour_27 : decode cX10_colour 27 = .ok (.getfield 27, 3) := by decide +kernel
theorem dX10_colour_30 : decode cX10_colour 30 = .ok (.sipush 256, 3) := by decide +kernel
theorem dX10_colour_33 : decode cX10_colour 33 = .ok (.aload_n 0, 1) := by decide +kernel
theorem dX10_colour_34 : decode cX10_colour 34 = .ok (.getfield 66, 3) := by decide +kernel
theorem dX10_colour_37 : decode cX10_colour 37 = .ok (.imul, 1) := by decide +kernel
theorem dX10_colour_38 : decode cX10_colour 38 = .ok (.iload_n 2, 1) := by decide +kernel
theorem dX10_colour_39 : decode cX10_colour 39 = .ok (.iadd, 1) := by decide +kernel
theorem dX10_colour_40 : decode cX10_colour 40 = .ok (.iload_n 3, 1) := by decide +kernel
theorem dX10_colour_41 : decode cX10_colour 41 = .ok (.iastore, 1) := by decide +kernel
theorem dX10_colour_42 : decode cX10_colour 42 = .ok (.goto 18, 3) := by decide +kernel
theorem dX10_colour_45 : decode cX10_colour 45 = .ok (.aload_n 0, 1) := by decide +kernel
theorem dX10_colour_46 : decode cX10_colour 46 = .ok (.getfield 33, 3) := by decide +kernel
theorem dX10_colour_49 : decode cX10_colour 49 = .ok (.aload_n 0, 1) := by decide +kernel
theorem dX10_colour_50 : decode cX10_colour 50 = .ok (.getfield 66, 3) := by decide +kernel
theorem dX10_colour_53 : decode cX10_colour 53 = .ok (.iload_n 1, 1) := by decide +kernel
theorem dX10_colour_54 : decode cX10_colour 54 = .ok (.iload_n 2, 1) := by decide +kernel
theorem dX10_colour_55 : decode cX10_colour 55 = .ok (.invokestatic 160, 3) := by decide +kernel
theorem dX10_colour_58 : decode cX10_colour 58 = .ok (.iload_n 3, 1) := by decide +kernel
theorem dX10_colour_59 : decode cX10_colour 59 = .ok (.iastore, 1) := by decide +kernel
theorem dX10_colour_60 : decode cX10_colour 60 = .ok (.iconst 1, 1) := by decide +kernel
theorem dX10_colour_61 : decode cX10_colour 61 = .ok (.ireturn, 1) := by decide +kernel
theorem dX10_frame_0 : decode cX10_frame 0 = .ok (.aload_n 0, 1) := by decide +kernel
theorem dX10_frame_1 : decode cX10_frame 1 = .ok (.invokevirtual 69, 3) := by decide +kernel
theorem dX10_frame_4 : decode cX10_frame 4 = .ok (.istore 7, 2) := by decide +kernel
theorem dX10_frame_6 : decode cX10_frame 6 = .ok (.aload_n 0, 1) := by decide +kernel
theorem dX10_frame_7 : decode cX10_frame 7 = .ok (.getfield 23, 3) := by decide +kernel
theorem dX10_frame_10 : decode cX10_frame 10 = .ok (.bipush 6, 2) := by decide +kernel
theorem dX10_frame_12 : decode cX10_frame 12 = .ok (.aload_n 0, 1) := by decide +kernel
theorem dX10_frame_13 : decode cX10_frame 13 = .ok (.getfield 66, 3) := by decide +kernel
theorem dX10_frame_16 : decode cX10_frame 16 = .ok (.imul, 1) := by decide +kernel
theorem dX10_frame_17 : decode cX10_frame 17 = .ok (.iaload, 1) := by decide +kernel
theorem dX10_frame_18 : decode cX10_frame 18 = .ok (.istore 8, 2) := by decide +kernel
theorem dX10_frame_20 : decode cX10_frame 20 = .ok (.aload_n 0, 1) := by decide +kernel
theorem dX10_frame_21 : decode cX10_frame 21 = .ok (.getfield 23, 3) := by decide +kernel
theorem dX10_frame_24 : decode cX10_frame 24 = .ok (.bipush 6, 2) := by decide +kernel
theorem dX10_frame_26 : decode cX10_frame 26 = .ok (.aload_n 0, 1) := by decide +kernel
theorem dX10_frame_27 : decode cX10_frame 27 = .ok (.getfield 66, 3) := by decide +kernel
theorem dX10_frame_30 : decode cX10_frame 30 = .ok (.imul, 1) := by decide +kernel
theorem dX10_frame_31 : decode cX10_frame 31 = .ok (.iconst 1, 1) := by decide +kernel
theorem dX10_frame_32 : decode cX10_frame 32 = .ok (.iadd, 1) := by decide +kernel
theorem dX10_frame_33 : decode cX10_frame 33 = .ok (.iaload, 1) := by decide +kernel
theorem dX10_frame_34 : decode cX10_frame 34 = .ok (.istore 9, 2) := by decide +kernel
theorem dX10_frame_36 : decode cX10_frame 36 = .ok (.iload 7, 2) := by decide +kernel
theorem dX10_frame_38 : decode cX10_frame 38 = .ok (.bipush 24, 2) := by decide +kernel
theorem dX10_frame_40 : decode cX10_frame 40 = .ok (.if_icmp .eq 48, 3) := by decide +kernel
theorem dX10_frame_43 : decode cX10_frame 43 = .ok (.iload_n 1, 1) := by decide +kernel
theorem dX10_frame_44 : decode cX10_frame 44 = .ok (.iconst 0, 1) := by decide +kernel
theorem dX10_frame_45 : decode cX10_frame 45 = .ok (.iload 8, 2) := by decide +kernel
theorem dX10_frame_47 : decode cX10_frame 47 = .ok (.invokestatic 221, 3) := by decide +kernel
theorem dX10_frame_50 : decode cX10_frame 50 = .ok (.ifCond .eq 38, 3) := by decide +kernel
theorem dX10_frame_53 : decode cX10_frame 53 = .ok (.iload_n 2, 1) := by decide +kernel
theorem dX10_frame_54 : decode cX10_frame 54 = .ok (.iconst 0, 1) := by decide +kernel
theorem dX10_frame_55 : decode cX10_frame 55 = .ok (.iload 9, 2) := by decide +kernel
theorem dX10_frame_57 : decode cX10_frame 57 = .ok (.invokestatic 221, 3) := by decide +kernel
theorem dX10_frame_60 : decode cX10_frame 60 = .ok (.ifCond .eq 28, 3) := by decide +kernel
theorem dX10_frame_63 : decode cX10_frame 63 = .ok (.iload_n 3, 1) := by decide +kernel
theorem dX10_frame_64 : decode cX10_frame 64 = .ok (.iconst 1, 1) := by decide +kernel
theorem dX10_frame_65 : decode cX10_frame 65 = .ok (.iload 8, 2) := by decide +kernel
theorem dX10_frame_67 : decode cX10_frame 67 = .ok (.iload_n 1, 1) := by decide +kernel
theorem dX10_frame_68 : decode cX10_frame 68 = .ok (.isub, 1) := by decide +kernel
theorem dX10_frame_69 : decode cX10_frame 69 = .ok (.invokestatic 221, 3) := by decide +kernel
theorem dX10_frame_72 : decode cX10_frame 72 = .ok (.ifCond .eq 16, 3) := by decide +kernel
theorem dX10_frame_75 : decode cX10_frame 75 = .ok (.iload 4, 2) := by decide +kernel
theorem dX10_frame_77 : decode cX10_frame 77 = .ok (.iconst 1, 1) := by decide +kernel
theorem dX10_frame_78 : decode cX10_frame 78 = .ok (.iload 9, 2) := by decide +kernel
theorem dX10_frame_80 : decode cX10_frame 80 = .ok (.iload_n 2, 1) := by decide +kernel
theorem dX10_frame_81 : decode cX10_frame 81 = .ok (.isub, 1) := by decide +kernel
theorem dX10_frame_82 : decode cX10_frame 82 = .ok (.invokestatic 221, 3) := by decide +kernel
theorem dX10_frame_85 : decode cX10_frame 85 = .ok (.ifCond .ne 5, 3) := by decide +kernel
theorem dX10_frame_88 : decode cX10_frame 88 = .ok (.iconst (-1), 1) := by decide +kernel
theorem dX10_frame_89 : decode cX10_frame 89 = .ok (.ireturn, 1) := by decide +kernel
theorem dX10_frame_90 : decode cX10_frame 90 = .ok (.iload 5, 2) := by decide +kernel
theorem dX10_frame_92 : decode cX10_frame 92 = .ok (.invokestatic 225, 3) := by decide +kernel
theorem dX10_frame_95 : decode cX10_frame 95 = .ok (.ifCond .eq 25, 3) := by decide +kernel
theorem dX10_frame_98 : decode cX10_frame 98 = .ok (.iload 5, 2) := by decide +kernel
theorem dX10_frame_100 : decode cX10_frame 100 = .ok (.ifCond .ne 22, 3) := by decide +kernel
theorem dX10_frame_103 : decode cX10_frame 103 = .ok (.aload_n 0, 1) := by decide +kernel
theorem dX10_frame_104 : decode cX10_frame 104 = .ok (.getfield 23, 3) := by decide +kernel
theorem dX10_frame_107 : decode cX10_frame 107 = .ok (.bipush 6, 2) := by decide +kernel
theorem dX10_frame_109 : decode cX10_frame 109 = .ok (.aload_n 0, 1) := by decide +kernel
theorem dX10_frame_110 : decode cX10_frame 110 = .ok (.getfield 66, 3) := by decide +kernel
theorem dX10_frame_113 : decode cX10_frame 113 = .ok (.imul, 1) := by decide +kernel
theorem dX10_frame_114 : decode cX10_frame 114 = .ok (.iconst 2, 1) := by decide +kernel
theorem dX10_frame_115 : decode cX10_frame 115 = .ok (.iadd, 1) := by decide +kernel
theorem dX10_frame_116 : decode cX10_frame 116 = .ok (.iaload, 1) := by decide +kernel
theorem dX10_frame_117 : decode cX10_frame 117 = .ok (.ifCond .ne 5, 3) := by decide +kernel
theorem dX10_frame_120 : decode cX10_frame 120 = .ok (.iconst (-1), 1) := by decide +kernel
theorem dX10_frame_121 : decode cX10_frame 121 = .ok (.ireturn, 1) := by decide +kernel
theorem dX10_frame_122 : decode cX10_frame 122 = .ok (.aload_n 0, 1) := by decide +kernel
theorem dX10_frame_123 : decode cX10_frame 123 = .ok (.aload_n 0, 1) := by decide +kernel
theorem dX10_frame_124 : decode cX10_frame 124 = .ok (.getfield 66, 3) := by decide +kernel
theorem dX10_frame_127 : decode cX10_frame 127 = .ok (.iload 7, 2) := by decide +kernel
theorem dX10_frame_129 : decode cX10_frame 129 = .ok (.iconst 0, 1) := by decide +kernel
theorem dX10_frame_130 : decode cX10_frame 130 = .ok (.iload_n 1, 1) := by decide +kernel
theorem dX10_frame_131 : decode cX10_frame 131 = .ok (.invokevirtual 163, 3) := by decide +kernel
theorem dX10_frame_134 : decode cX10_frame 134 = .ok (.aload_n 0, 1) := by decide +kernel
theorem dX10_frame_135 : decode cX10_frame 135 = .ok (.aload_n 0, 1) := by decide +kernel
theorem dX10_frame_136 : decode cX10_frame 136 = .ok (.getfield 66, 3) := by decide +kernel
theorem dX10_frame_139 : decode cX10_frame 139 = .ok (.iload 7, 2) := by decide +kernel
theorem dX10_frame_141 : decode cX10_frame 141 = .ok (.iconst 1, 1) := by decide +kernel
theorem dX10_frame_142 : decode cX10_frame 142 = .ok (.iload_n 2, 1) := by decide +kernel
theorem dX10_frame_143 : decode cX10_frame 143 = .ok (.invokevirtual 163, 3) := by decide +kernel
theorem dX10_frame_146 : decode cX10_frame 146 = .ok (.aload_n 0, 1) := by decide +kernel
theorem dX10_frame_147 : decode cX10_frame 147 = .ok (.aload_n 0, 1) := by decide +kernel
theorem dX10_frame_148 : decode cX10_frame 148 = .ok (.getfield 66, 3) := by decide +kernel
theorem dX10_frame_151 : decode cX10_frame 151 = .ok (.iload 7, 2) := by decide +kernel
theorem dX10_frame_153 : decode cX10_frame 153 = .ok (.iconst 2, 1) := by decide +kernel
theorem dX10_frame_154 : decode cX10_frame 154 = .ok (.iload_n 3, 1) := by decide +kernel
theorem dX10_frame_155 : decode cX10_frame 155 = .ok (.invokevirtual 163, 3) := by decide +kernel
theorem dX10_frame_158 : decode cX10_frame 158 = .ok (.aload_n 0, 1) := by decide +kernel
theorem dX10_frame_159 : decode cX10_frame 159 = .ok (.aload_n 0, 1) := by decide +kernel
theorem dX10_frame_160 : decode cX10_frame 160 = .ok (.getfield 66, 3) := by decide +kernel
theorem dX10_frame_163 : decode cX10_frame 163 = .ok (.iload 7, 2) := by decide +kernel
theorem dX10_frame_165 : decode cX10_frame 165 = .ok (.iconst 3, 1) := by decide +kernel
theorem dX10_frame_166 : decode cX10_frame 166 = .ok (.iload 4, 2) := by decide +kernel
theorem dX10_frame_168 : decode cX10_frame 168 = .ok (.invokevirtual 163, 3) := by decide +kernel
theorem dX10_frame_171 : decode cX10_frame 171 = .ok (.aload_n 0, 1) := by decide +kernel
theorem dX10_frame_172 : decode cX10_frame 172 = .ok (.aload_n 0, 1) := by decide +kernel
theorem dX10_frame_173 : decode cX10_frame 173 = .ok (.getfield 66, 3) := by decide +kernel
theorem dX10_frame_176 : decode cX10_frame 176 = .ok (.iload 7, 2) := by decide +kernel
theorem dX10_frame_178 : decode cX10_frame 178 = .ok (.iconst 4, 1) := by decide +kernel
theorem dX10_frame_179 : decode cX10_frame 179 = .ok (.iload 5, 2) := by decide +kernel
theorem dX10_frame_181 : decode cX10_frame 181 = .ok (.invokevirtual 163, 3) := by decide +kernel
theorem dX10_frame_184 : decode cX10_frame 184 = .ok (.aload_n 0, 1) := by decide +kernel
theorem dX10_frame_185 : decode cX10_frame 185 = .ok (.aload_n 0, 1) := by decide +kernel
theorem dX10_frame_186 : decode cX10_frame 186 = .ok (.getfield 66, 3) := by decide +kernel
theorem dX10_frame_189 : decode cX10_frame 189 = .ok (.iload 7, 2) := by decide +kernel
theorem dX10_frame_191 : decode cX10_frame 191 = .ok (.iconst 5, 1) := by decide +kernel
theorem dX10_frame_192 : decode cX10_frame 192 = .ok (.iload 6, 2) := by decide +kernel
theorem dX10_frame_194 : decode cX10_frame 194 = .ok (.ifCond .eq 7, 3) := by decide +kernel
theorem dX10_frame_197 : decode cX10_frame 197 = .ok (.iconst 1, 1) := by decide +kernel
theorem dX10_frame_198 : decode cX10_frame 198 = .ok (.goto 4, 3) := by decide +kernel
theorem dX10_frame_201 : decode cX10_frame 201 = .ok (.iconst 0, 1) := by decide +kernel
theorem dX10_frame_202 : decode cX10_frame 202 = .ok (.invokevirtual 163, 3) := by decide +kernel
theorem dX10_frame_205 : decode cX10_frame 205 = .ok (.aload_n 0, 1) := by decide +kernel
theorem dX10_frame_206 : decode cX10_frame 206 = .ok (.aload_n 0, 1) := by decide +kernel
theorem dX10_frame_207 : decode cX10_frame 207 = .ok (.getfield 66, 3) := by decide +kernel
theorem dX10_frame_210 : decode cX10_frame 210 = .ok (.iload 7, 2) := by decide +kernel
theorem dX10_frame_212 : decode cX10_frame 212 = .ok (.bipush 6, 2) := by decide +kernel
theorem dX10_frame_214 : decode cX10_frame 214 = .ok (.iconst 0, 1) := by decide +kernel
theorem dX10_frame_215 : decode cX10_frame 215 = .ok (.invokevirtual 163, 3) := by decide +kernel
theorem dX10_frame_218 : decode cX10_frame 218 = .ok (.aload_n 0, 1) := by decide +kernel
theorem dX10_frame_219 : decode cX10_frame 219 = .ok (.aload_n 0, 1) := by decide +kernel
theorem dX10_frame_220 : decode cX10_frame 220 = .ok (.getfield 66, 3) := by decide +kernel
theorem dX10_frame_223 : decode cX10_frame 223 = .ok (.iload 7, 2) := by decide +kernel
theorem dX10_frame_225 : decode cX10_frame 225 = .ok (.bipush 7, 2) := by decide +kernel
theorem dX10_frame_227 : decode cX10_frame 227 = .ok (.iconst (-1), 1) := by decide +kernel
theorem dX10_frame_228 : decode cX10_frame 228 = .ok (.invokevirtual 163, 3) := by decide +kernel
theorem dX10_frame_231 : decode cX10_frame 231 = .ok (.aload_n 0, 1) := by decide +kernel
theorem dX10_frame_232 : decode cX10_frame 232 = .ok (.aload_n 0, 1) := by decide +kernel
theorem dX10_frame_233 : decode cX10_frame 233 = .ok (.getfield 66, 3) := by decide +kernel
theorem dX10_frame_236 : decode cX10_frame 236 = .ok (.iload 7, 2) := by decide +kernel
theorem dX10_frame_238 : decode cX10_frame 238 = .ok (.bipush 8, 2) := by decide +kernel
theorem dX10_frame_240 : decode cX10_frame 240 = .ok (.iconst 0, 1) := by decide +kernel
theorem dX10_frame_241 : decode cX10_frame 241 = .ok (.invokevirtual 163, 3) := by decide +kernel
theorem dX10_frame_244 : decode cX10_frame 244 = .ok (.aload_n 0, 1) := by decide +kernel
theorem dX10_frame_245 : decode cX10_frame 245 = .ok (.aload_n 0, 1) := by decide +kernel
theorem dX10_frame_246 : decode cX10_frame 246 = .ok (.getfield 66, 3) := by decide +kernel
theorem dX10_frame_249 : decode cX10_frame 249 = .ok (.iload 7, 2) := by decide +kernel
theorem dX10_frame_251 : decode cX10_frame 251 = .ok (.bipush 9, 2) := by decide +kernel
theorem dX10_frame_253 : decode cX10_frame 253 = .ok (.iconst 0, 1) := by decide +kernel
theorem dX10_frame_254 : decode cX10_frame 254 = .ok (.invokevirtual 163, 3) := by decide +kernel
theorem dX10_frame_257 : decode cX10_frame 257 = .ok (.iconst 0, 1) := by decide +kernel
theorem dX10_frame_258 : decode cX10_frame 258 = .ok (.istore 10, 2) := by decide +kernel
theorem dX10_frame_260 : decode cX10_frame 260 = .ok (.iload 10, 2) := by decide +kernel
theorem dX10_frame_262 : decode cX10_frame 262 = .ok (.iload 5, 2) := by decide +kernel
theorem dX10_frame_264 : decode cX10_frame 264 = .ok (.if_icmp .ge 26, 3) := by decide +kernel
theorem dX10_frame_267 : decode cX10_frame 267 = .ok (.aload_n 0, 1) := by decide +kernel
theorem dX10_frame_268 : decode cX10_frame 268 = .ok (.getfield 33, 3) := by decide +kernel
theorem dX10_frame_271 : decode cX10_frame 271 = .ok (.aload_n 0, 1) := by decide +kernel
theorem dX10_frame_272 : decode cX10_frame 272 = .ok (.getfield 66, 3) := by decide +kernel
theorem dX10_frame_275 : decode cX10_frame 275 = .ok (.iload 7, 2) := by decide +kernel
theorem dX10_frame_277 : decode cX10_frame 277 = .ok (.iload 10, 2) := by decide +kernel
theorem dX10_frame_279 : decode cX10_frame 279 = .ok (.invokestatic 160, 3) := by decide +kernel
theorem dX10_frame_282 : decode cX10_frame 282 = .ok (.iconst 0, 1) := by decide +kernel
theorem dX10_frame_283 : decode cX10_frame 283 = .ok (.iastore, 1) := by decide +kernel
theorem dX10_frame_284 : decode cX10_frame 284 = .ok (.iinc 10 1, 3) := by decide +kernel
theorem dX10_frame_287 : decode cX10_frame 287 = .ok (.goto (-27), 3) := by decide +kernel
theorem dX10_frame_290 : decode cX10_frame 290 = .ok (.iconst 0, 1) := by decide +kernel
theorem dX10_frame_291 : decode cX10_frame 291 = .ok (.istore 10, 2) := by decide +kernel
theorem dX10_frame_293 : decode cX10_frame 293 = .ok (.iload 10, 2) := by decide +kernel
theorem dX10_frame_295 : decode cX10_frame 295 = .ok (.iload_n 3, 1) := by decide +kernel
theorem dX10_frame_296 : decode cX10_frame 296 = .ok (.iload 4, 2) := by decide +kernel
theorem dX10_frame_298 : decode cX10_frame 298 = .ok (.imul, 1) := by decide +kernel
theorem dX10_frame_299 : decode cX10_frame 299 = .ok (.if_icmp .ge 22, 3) := by decide +kernel
theorem dX10_frame_302 : decode cX10_frame 302 = .ok (.aload_n 0, 1) := by decide +kernel
theorem dX10_frame_303 : decode cX10_frame 303 = .ok (.aload_n 0, 1) := by decide +kernel
theorem dX10_frame_304 : decode cX10_frame 304 = .ok (.getfield 66, 3) := by decide +kernel
theorem dX10_frame_307 : decode cX10_frame 307 = .ok (.iload 7, 2) := by decide +kernel
theorem dX10_frame_309 : decode cX10_frame 309 = .ok (.iload 10, 2) := by decide +kernel
theorem dX10_frame_311 : decode cX10_frame 311 = .ok (.iconst 0, 1) := by decide +kernel
theorem dX10_frame_312 : decode cX10_frame 312 = .ok (.invokevirtual 215, 3) := by decide +kernel
theorem dX10_frame_315 : decode cX10_frame 315 = .ok (.iinc 10 1, 3) := by decide +kernel
theorem dX10_frame_318 : decode cX10_frame 318 = .ok (.goto (-25), 3) := by decide +kernel
theorem dX10_frame_321 : decode cX10_frame 321 = .ok (.aload_n 0, 1) := by decide +kernel
theorem dX10_frame_322 : decode cX10_frame 322 = .ok (.getfield 23, 3) := by decide +kernel
theorem dX10_frame_325 : decode cX10_frame 325 = .ok (.bipush 6, 2) := by decide +kernel
theorem dX10_frame_327 : decode cX10_frame 327 = .ok (.aload_n 0, 1) := by decide +kernel
theorem dX10_frame_328 : decode cX10_frame 328 = .ok (.getfield 66, 3) := by decide +kernel
theorem dX10_frame_331 : decode cX10_frame 331 = .ok (.imul, 1) := by decide +kernel
theorem dX10_frame_332 : decode cX10_frame 332 = .ok (.iconst 5, 1) := by decide +kernel
theorem dX10_frame_333 : decode cX10_frame 333 = .ok (.iadd, 1) := by decide +kernel
theorem dX10_frame_334 : decode cX10_frame 334 = .ok (.dup2, 1) := by decide +kernel
theorem dX10_frame_335 : decode cX10_frame 335 = .ok (.iaload, 1) := by decide +kernel
theorem dX10_frame_336 : decode cX10_frame 336 = .ok (.iconst 1, 1) := by decide +kernel
theorem dX10_frame_337 : decode cX10_frame 337 = .ok (.iadd, 1) := by decide +kernel
theorem dX10_frame_338 : decode cX10_frame 338 = .ok (.iastore, 1) := by decide +kernel
theorem dX10_frame_339 : decode cX10_frame 339 = .ok (.iload 7, 2) := by decide +kernel
theorem dX10_frame_341 : decode cX10_frame 341 = .ok (.ireturn, 1) := by decide +kernel
theorem dX10_control_0 : decode cX10_control 0 = .ok (.aload_n 0, 1) := by decide +kernel
theorem dX10_control_1 : decode cX10_control 1 = .ok (.iload_n 1, 1) := by decide +kernel
theorem dX10_control_2 : decode cX10_control 2 = .ok (.invokevirtual 229, 3) := by decide +kernel
theorem dX10_control_5 : decode cX10_control 5 = .ok (.ifCond .eq 35, 3) := by decide +kernel
theorem dX10_control_8 : decode cX10_control 8 = .ok (.iload_n 2, 1) := by decide +kernel
theorem dX10_control_9 : decode cX10_control 9 = .ok (.iconst 0, 1) := by decide +kernel
theorem dX10_control_10 : decode cX10_control 10 = .ok (.bipush 7, 2) := by decide +kernel
theorem dX10_control_12 : decode cX10_control 12 = .ok (.invokestatic 221, 3) := by decide +kernel
theorem dX10_control_15 : decode cX10_control 15 = .ok (.ifCond .eq 25, 3) := by decide +kernel
theorem dX10_control_18 : decode cX10_control 18 = .ok (.iload_n 3, 1) := by decide +kernel
theorem dX10_control_19 : decode cX10_control 19 = .ok (.iconst (-1), 1) := by decide +kernel
theorem dX10_control_20 : decode cX10_control 20 = .ok (.sipush 255, 3) := by decide +kernel
theorem dX10_control_23 : decode cX10_control 23 = .ok (.invokestatic 221, 3) := by decide +kernel
theorem dX10_control_26 : decode cX10_control 26 = .ok (.ifCond .eq 14, 3) := by decide +kernel
theorem dX10_control_29 : decode cX10_control 29 = .ok (.iload 4, 2) := by decide +kernel
theorem dX10_control_31 : decode cX10_control 31 = .ok (.iconst 0, 1) := by decide +kernel
theorem dX10_control_32 : decode cX10_control 32 = .ok (.ldc 236, 2) := by decide +kernel
theorem dX10_control_34 : decode cX10_control 34 = .ok (.invokestatic 221, 3) := by decide +kernel
theorem dX10_control_37 : decode cX10_control 37 = .ok (.ifCond .ne 5, 3) := by decide +kernel
theorem dX10_control_40 : decode cX10_control 40 = .ok (.iconst 0, 1) := by decide +kernel
theorem dX10_control_41 : decode cX10_control 41 = .ok (.ireturn, 1) := by decide +kernel
theorem dX10_control_42 : decode cX10_control 42 = .ok (.aload_n 0, 1) := by decide +kernel
theorem dX10_control_43 : decode cX10_control 43 = .ok (.aload_n 0, 1) := by decide +kernel
theorem dX10_control_44 : decode cX10_control 44 = .ok (.getfield 66, 3) := by decide +kernel
theorem dX10_control_47 : decode cX10_control 47 = .ok (.iload_n 1, 1) := by decide +kernel
theorem dX10_control_48 : decode cX10_control 48 = .ok (.bipush 6, 2) := by decide +kernel
theorem dX10_control_50 : decode cX10_control 50 = .ok (.iload_n 2, 1) := by decide +kernel
theorem dX10_control_51 : decode cX10_control 51 = .ok (.invokevirtual 163, 3) := by decide +kernel
theorem dX10_control_54 : decode cX10_control 54 = .ok (.aload_n 0, 1) := by decide +kernel
theorem dX10_control_55 : decode cX10_control 55 = .ok (.aload_n 0, 1) := by decide +kernel
theorem dX10_control_56 : decode cX10_control 56 = .ok (.getfield 66, 3) := by decide +kernel
theorem dX10_control_59 : decode cX10_control 59 = .ok (.iload_n 1, 1) := by decide +kernel
theorem dX10_control_60 : decode cX10_control 60 = .ok (.bipush 7, 2) := by decide +kernel
theorem dX10_control_62 : decode cX10_control 62 = .ok (.iload_n 3, 1) := by decide +kernel
theorem dX10_control_63 : decode cX10_control 63 = .ok (.invokevirtual 163, 3) := by decide +kernel
theorem dX10_control_66 : decode cX10_control 66 = .ok (.aload_n 0, 1) := by decide +kernel
theorem dX10_control_67 : decode cX10_control 67 = .ok (.aload_n 0, 1) := by decide +kernel
theorem dX10_control_68 : decode cX10_control 68 = .ok (.getfield 66, 3) := by decide +kernel
theorem dX10_control_71 : decode cX10_control 71 = .ok (.iload_n 1, 1) := by decide +kernel
theorem dX10_control_72 : decode cX10_control 72 = .ok (.bipush 8, 2) := by decide +kernel
theorem dX10_control_74 : decode cX10_control 74 = .ok (.iload 4, 2) := by decide +kernel
theorem dX10_control_76 : decode cX10_control 76 = .ok (.invokevirtual 163, 3) := by decide +kernel
theorem dX10_control_79 : decode cX10_control 79 = .ok (.aload_n 0, 1) := by decide +kernel
theorem dX10_control_80 : decode cX10_control 80 = .ok (.aload_n 0, 1) := by decide +kernel
theorem dX10_control_81 : decode cX10_control 81 = .ok (.getfield 66, 3) := by decide +kernel
theorem dX10_control_84 : decode cX10_control 84 = .ok (.iload_n 1, 1) := by decide +kernel
theorem dX10_control_85 : decode cX10_control 85 = .ok (.bipush 9, 2) := by decide +kernel
theorem dX10_control_87 : decode cX10_control 87 = .ok (.iload 5, 2) := by decide +kernel
theorem dX10_control_89 : decode cX10_control 89 = .ok (.ifCond .eq 7, 3) := by decide +kernel
theorem dX10_control_92 : decode cX10_control 92 = .ok (.iconst 1, 1) := by decide +kernel
theorem dX10_control_93 : decode cX10_control 93 = .ok (.goto 4, 3) := by decide +kernel
theorem dX10_control_96 : decode cX10_control 96 = .ok (.iconst 0, 1) := by decide +kernel
theorem dX10_control_97 : decode cX10_control 97 = .ok (.invokevirtual 163, 3) := by decide +kernel
theorem dX10_control_100 : decode cX10_control 100 = .ok (.iconst 1, 1) := by decide +kernel
theorem dX10_control_101 : decode cX10_control 101 = .ok (.ireturn, 1) := by decide +kernel
theorem dX10_paint_0 : decode cX10_paint 0 = .ok (.aload_n 0, 1) := by decide +kernel
theorem dX10_paint_1 : decode cX10_paint 1 = .ok (.iload_n 1, 1) := by decide +kernel
theorem dX10_paint_2 : decode cX10_paint 2 = .ok (.invokevirtual 229, 3) := by decide +kernel
theorem dX10_paint_5 : decode cX10_paint 5 = .ok (.ifCond .eq 23, 3) := by decide +kernel
theorem dX10_paint_8 : decode cX10_paint 8 = .ok (.iload 4, 2) := by decide +kernel
theorem dX10_paint_10 : decode cX10_paint 10 = .ok (.iconst 0, 1) := by decide +kernel
theorem dX10_paint_11 : decode cX10_paint 11 = .ok (.aload_n 0, 1) := by decide +kernel
theorem dX10_paint_12 : decode cX10_paint 12 = .ok (.aload_n 0, 1) := by decide +kernel
theorem dX10_paint_13 : decode cX10_paint 13 = .ok (.getfield 66, 3) := by decide +kernel
theorem dX10_paint_16 : decode cX10_paint 16 = .ok (.iload_n 1, 1) := by decide +kernel
theorem dX10_paint_17 : decode cX10_paint 17 = .ok (.invokevirtual 193, 3) := by decide +kernel
theorem dX10_paint_20 : decode cX10_paint 20 = .ok (.iconst 1, 1) := by decide +kernel
theorem dX10_paint_21 : decode cX10_paint 21 = .ok (.isub, 1) := by decide +kernel
theorem dX10_paint_22 : decode cX10_paint 22 = .ok (.invokestatic 221, 3) := by decide +kernel
theorem dX10_paint_25 : decode cX10_paint 25 = .ok (.ifCond .ne 5, 3) := by decide +kernel
theorem dX10_paint_28 : decode cX10_paint 28 = .ok (.iconst 0, 1) := by decide +kernel
theorem dX10_paint_29 : decode cX10_paint 29 = .ok (.ireturn, 1) := by decide +kernel
theorem dX10_paint_30 : decode cX10_paint 30 = .ok (.aload_n 0, 1) := by decide +kernel
theorem dX10_paint_31 : decode cX10_paint 31 = .ok (.aload_n 0, 1) := by decide +kernel
theorem dX10_paint_32 : decode cX10_paint 32 = .ok (.getfield 66, 3) := by decide +kernel
theorem dX10_paint_35 : decode cX10_paint 35 = .ok (.iload_n 1, 1) := by decide +kernel
theorem dX10_paint_36 : decode cX10_paint 36 = .ok (.invokevirtual 189, 3) := by decide +kernel
theorem dX10_paint_39 : decode cX10_paint 39 = .ok (.istore 5, 2) := by decide +kernel
theorem dX10_paint_41 : decode cX10_paint 41 = .ok (.iload_n 2, 1) := by decide +kernel
theorem dX10_paint_42 : decode cX10_paint 42 = .ok (.iconst 0, 1) := by decide +kernel
theorem dX10_paint_43 : decode cX10_paint 43 = .ok (.iload 5, 2) := by decide +kernel
theorem dX10_paint_45 : decode cX10_paint 45 = .ok (.invokestatic 221, 3) := by decide +kernel
theorem dX10_paint_48 : decode cX10_paint 48 = .ok (.ifCond .eq 15, 3) := by decide +kernel
theorem dX10_paint_51 : decode cX10_paint 51 = .ok (.iload_n 3, 1) := by decide +kernel
theorem dX10_paint_52 : decode cX10_paint 52 = .ok (.iconst 0, 1) := by decide +kernel
theorem dX10_paint_53 : decode cX10_paint 53 = .ok (.iload 5, 2) := by decide +kernel
theorem dX10_paint_55 : decode cX10_paint 55 = .ok (.iload_n 2, 1) := by decide +kernel
theorem dX10_paint_56 : decode cX10_paint 56 = .ok (.isub, 1) := by decide +kernel
theorem dX10_paint_57 : decode cX10_paint 57 = .ok (.invokestatic 221, 3) := by decide +kernel
theorem dX10_paint_60 : decode cX10_paint 60 = .ok (.ifCond .ne 5, 3) := by decide +kernel
theorem dX10_paint_63 : decode cX10_paint 63 = .ok (.iconst 0, 1) := by decide +kernel
theorem dX10_paint_64 : decode cX10_paint 64 = .ok (.ireturn, 1) := by decide +kernel
theorem dX10_paint_65 : decode cX10_paint 65 = .ok (.iconst 0, 1) := by decide +kernel
theorem dX10_paint_66 : decode cX10_paint 66 = .ok (.istore 6, 2) := by decide +kernel
theorem dX10_paint_68 : decode cX10_paint 68 = .ok (.iload 6, 2) := by decide +kernel
theorem dX10_paint_70 : decode cX10_paint 70 = .ok (.iload_n 3, 1) := by decide +kernel
theorem dX10_paint_71 : decode cX10_paint 71 = .ok (.if_icmp .ge 24, 3) := by decide +kernel
theorem dX10_paint_74 : decode cX10_paint 74 = .ok (.aload_n 0, 1) := by decide +kernel
theorem dX10_paint_75 : decode cX10_paint 75 = .ok (.aload_n 0, 1) := by decide +kernel
theorem dX10_paint_76 : decode cX10_paint 76 = .ok (.getfield 66, 3) := by decide +kernel
theorem dX10_paint_79 : decode cX10_paint 79 = .ok (.iload_n 1, 1) := by decide +kernel
theorem dX10_paint_80 : decode cX10_paint 80 = .ok (.iload_n 2, 1) := by decide +kernel
theorem dX10_paint_81 : decode cX10_paint 81 = .ok (.iload 6, 2) := by decide +kernel
theorem dX10_paint_83 : decode cX10_paint 83 = .ok (.iadd, 1) := by decide +kernel
theorem dX10_paint_84 : decode cX10_paint 84 = .ok (.iload 4, 2) := by decide +kernel
theorem dX10_paint_86 : decode cX10_paint 86 = .ok (.invokevirtual 215, 3) := by decide +kernel
theorem dX10_paint_89 : decode cX10_paint 89 = .ok (.iinc 6 1, 3) := by decide +kernel
theorem dX10_paint_92 : decode cX10_paint 92 = .ok (.goto (-24), 3) := by decide +kernel
theorem dX10_paint_95 : decode cX10_paint 95 = .ok (.iconst 1, 1) := by decide +kernel
theorem dX10_paint_96 : decode cX10_paint 96 = .ok (.ireturn, 1) := by decide +kernel
theorem dX10_say_0 : decode cX10_say 0 = .ok (.aload_n 0, 1) := by decide +kernel
theorem dX10_say_1 : decode cX10_say 1 = .ok (.getfield 237, 3) := by decide +kernel
theorem dX10_say_4 : decode cX10_say 4 = .ok (.sipush 12000, 3) := by decide +kernel
theorem dX10_say_7 : decode cX10_say 7 = .ok (.if_icmp .ge 14, 3) := by decide +kernel
theorem dX10_say_10 : decode cX10_say 10 = .ok (.aload_n 0, 1) := by decide +kernel
theorem dX10_say_11 : decode cX10_say 11 = .ok (.getfield 41, 3) := by decide +kernel
theorem dX10_say_14 : decode cX10_say 14 = .ok (.aload_n 0, 1) := by decide +kernel
theorem dX10_say_15 : decode cX10_say 15 = .ok (.getfield 237, 3) := by decide +kernel
theorem dX10_say_18 : decode cX10_say 18 = .ok (.iload_n 1, 1) := by decide +kernel
theorem dX10_say_19 : decode cX10_say 19 = .ok (.i2b, 1) := by decide +kernel
theorem dX10_say_20 : decode cX10_say 20 = .ok (.bastore, 1) := by decide +kernel
theorem dX10_say_21 : decode cX10_say 21 = .ok (.aload_n 0, 1) := by decide +kernel
theorem dX10_say_22 : decode cX10_say 22 = .ok (.dup, 1) := by decide +kernel
theorem dX10_say_23 : decode cX10_say 23 = .ok (.getfield 237, 3) := by decide +kernel
theorem dX10_say_26 : decode cX10_say 26 = .ok (.iconst 1, 1) := by decide +kernel
theorem dX10_say_27 : decode cX10_say 27 = .ok (.iadd, 1) := by decide +kernel
theorem dX10_say_28 : decode cX10_say 28 = .ok (.putfield 237, 3) := by decide +kernel
theorem dX10_say_31 : decode cX10_say 31 = .ok (.return_, 1) := by decide +kernel
theorem dX10_sayTwo_0 : decode cX10_sayTwo 0 = .ok (.aload_n 0, 1) := by decide +kernel
theorem dX10_sayTwo_1 : decode cX10_sayTwo 1 = .ok (.iload_n 1, 1) := by decide +kernel
theorem dX10_sayTwo_2 : decode cX10_sayTwo 2 = .ok (.invokevirtual 240, 3) := by decide +kernel
theorem dX10_sayTwo_5 : decode cX10_sayTwo 5 = .ok (.aload_n 0, 1) := by decide +kernel
theorem dX10_sayTwo_6 : decode cX10_sayTwo 6 = .ok (.iload_n 1, 1) := by decide +kernel
theorem dX10_sayTwo_7 : decode cX10_sayTwo 7 = .ok (.bipush 8, 2) := by decide +kernel
theorem dX10_sayTwo_9 : decode cX10_sayTwo 9 = .ok (.ishr, 1) := by decide +kernel
theorem dX10_sayTwo_10 : decode cX10_sayTwo 10 = .ok (.invokevirtual 240, 3) := by decide +kernel
theorem dX10_sayTwo_13 : decode cX10_sayTwo 13 = .ok (.return_, 1) := by decide +kernel
theorem dX10_sayTable_0 : decode cX10_sayTable 0 = .ok (.iconst 0, 1) := by decide +kernel
theorem dX10_sayTable_1 : decode cX10_sayTable 1 = .ok (.istore 4, 2) := by decide +kernel
theorem dX10_sayTable_3 : decode cX10_sayTable 3 = .ok (.iload 4, 2) := by decide +kernel
theorem dX10_sayTable_5 : decode cX10_sayTable 5 = .ok (.iload_n 3, 1) := by decide +kernel
theorem dX10_sayTable_6 : decode cX10_sayTable 6 = .ok (.if_icmp .ge 45, 3) := by decide +kernel
theorem dX10_sayTable_9 : decode cX10_sayTable 9 = .ok (.aload_n 0, 1) := by decide +kernel
theorem dX10_sayTable_10 : decode cX10_sayTable 10 = .ok (.aload_n 1, 1) := by decide +kernel
theorem dX10_sayTable_11 : decode cX10_sayTable 11 = .ok (.iload_n 2, 1) := by decide +kernel
theorem dX10_sayTable_12 : decode cX10_sayTable 12 = .ok (.iload 4, 2) := by decide +kernel
theorem dX10_sayTable_14 : decode cX10_sayTable 14 = .ok (.iadd, 1) := by decide +kernel
theorem dX10_sayTable_15 : decode cX10_sayTable 15 = .ok (.iaload, 1) := by decide +kernel
theorem dX10_sayTable_16 : decode cX10_sayTable 16 = .ok (.bipush 16, 2) := by decide +kernel
theorem dX10_sayTable_18 : decode cX10_sayTable 18 = .ok (.ishr, 1) := by decide +kernel
theorem dX10_sayTable_19 : decode cX10_sayTable 19 = .ok (.invokevirtual 240, 3) := by decide +kernel
theorem dX10_sayTable_22 : decode cX10_sayTable 22 = .ok (.aload_n 0, 1) := by decide +kernel
theorem dX10_sayTable_23 : decode cX10_sayTable 23 = .ok (.aload_n 1, 1) := by decide +kernel
theorem dX10_sayTable_24 : decode cX10_sayTable 24 = .ok (.iload_n 2, 1) := by decide +kernel
theorem dX10_sayTable_25 : decode cX10_sayTable 25 = .ok (.iload 4, 2) := by decide +kernel
theorem dX10_sayTable_27 : decode cX10_sayTable 27 = .ok (.iadd, 1) := by decide +kernel
theorem dX10_sayTable_28 : decode cX10_sayTable 28 = .ok (.iaload, 1) := by decide +kernel
theorem dX10_sayTable_29 : decode cX10_sayTable 29 = .ok (.bipush 8, 2) := by decide +kernel
theorem dX10_sayTable_31 : decode cX10_sayTable 31 = .ok (.ishr, 1) := by decide +kernel
theorem dX10_sayTable_32 : decode cX10_sayTable 32 = .ok (.invokevirtual 240, 3) := by decide +kernel
theorem dX10_sayTable_35 : decode cX10_sayTable 35 = .ok (.aload_n 0, 1) := by decide +kernel
theorem dX10_sayTable_36 : decode cX10_sayTable 36 = .ok (.aload_n 1, 1) := by decide +kernel
theorem dX10_sayTable_37 : decode cX10_sayTable 37 = .ok (.iload_n 2, 1) := by decide +kernel
theorem dX10_sayTable_38 : decode cX10_sayTable 38 = .ok (.iload 4, 2) := by decide +kernel
theorem dX10_sayTable_40 : decode cX10_sayTable 40 = .ok (.iadd, 1) := by decide +kernel
theorem dX10_sayTable_41 : decode cX10_sayTable 41 = .ok (.iaload, 1) := by decide +kernel
theorem dX10_sayTable_42 : decode cX10_sayTable 42 = .ok (.invokevirtual 240, 3) := by decide +kernel
theorem dX10_sayTable_45 : decode cX10_sayTable 45 = .ok (.iinc 4 1, 3) := by decide +kernel
theorem dX10_sayTable_48 : decode cX10_sayTable 48 = .ok (.goto (-45), 3) := by decide +kernel
theorem dX10_sayTable_51 : decode cX10_sayTable 51 = .ok (.return_, 1) := by decide +kernel
theorem dX10_bitsOf_0 : decode cX10_bitsOf 0 = .ok (.iconst 0, 1) := by decide +kernel
theorem dX10_bitsOf_1 : decode cX10_bitsOf 1 = .ok (.istore_n 1, 1) := by decide +kernel
theorem dX10_bitsOf_2 : decode cX10_bitsOf 2 = .ok (.iconst 2, 1) := by decide +kernel
theorem dX10_bitsOf_3 : decode cX10_bitsOf 3 = .ok (.iload_n 1, 1) := by decide +kernel
theorem dX10_bitsOf_4 : decode cX10_bitsOf 4 = .ok (.ishl, 1) := by decide +kernel
theorem dX10_bitsOf_5 : decode cX10_bitsOf 5 = .ok (.iload_n 0, 1) := by decide +kernel
theorem dX10_bitsOf_6 : decode cX10_bitsOf 6 = .ok (.if_icmp .ge 9, 3) := by decide +kernel
theorem dX10_bitsOf_9 : decode cX10_bitsOf 9 = .ok (.iinc 1 1, 3) := by decide +kernel
theorem dX10_bitsOf_12 : decode cX10_bitsOf 12 = .ok (.goto (-10), 3) := by decide +kernel
theorem dX10_bitsOf_15 : decode cX10_bitsOf 15 = .ok (.iload_n 1, 1) := by decide +kernel
theorem dX10_bitsOf_16 : decode cX10_bitsOf 16 = .ok (.ireturn, 1) := by decide +kernel
theorem dX10_write_0 : decode cX10_write 0 = .ok (.aload_n 0, 1) := by decide +kernel
theorem dX10_write_1 : decode cX10_write 1 = .ok (.iconst 0, 1) := by decide +kernel
theorem dX10_write_2 : decode cX10_write 2 = .ok (.putfield 237, 3) := by decide +kernel
theorem dX10_write_5 : decode cX10_write 5 = .ok (.aload_n 0, 1) := by decide +kernel
theorem dX10_write_6 : decode cX10_write 6 = .ok (.bipush 71, 2) := by decide +kernel
theorem dX10_write_8 : decode cX10_write 8 = .ok (.invokevirtual 240, 3) := by decide +kernel
theorem dX10_write_11 : decode cX10_write 11 = .ok (.aload_n 0, 1) := by decide +kernel
theorem dX10_write_12 : decode cX10_write 12 = .ok (.bipush 73, 2) := by decide +kernel
theorem dX10_write_14 : decode cX10_write 14 = .ok (.invokevirtual 240, 3) := by decide +kernel
theorem dX10_write_17 : decode cX10_write 17 = .ok (.aload_n 0, 1) := by decide +kernel
theorem dX10_write_18 : decode cX10_write 18 = .ok (.bipush 70, 2) := by decide +kernel
theorem dX10_write_20 : decode cX10_write 20 = .ok (.invokevirtual 240, 3) := by decide +kernel
theorem dX10_write_23 : decode cX10_write 23 = .ok (.aload_n 0, 1) := by decide +kernel
theorem dX10_write_24 : decode cX10_write 24 = .ok (.bipush 56, 2) := by decide +kernel
theorem dX10_write_26 : decode cX10_write 26 = .ok (.invokevirtual 240, 3) := by decide +kernel
theorem dX10_write_29 : decode cX10_write 29 = .ok (.aload_n 0, 1) := by decide +kernel
theorem dX10_write_30 : decode cX10_write 30 = .ok (.bipush 57, 2) := by decide +kernel
theorem dX10_write_32 : decode cX10_write 32 = .ok (.invokevirtual 240, 3) := by decide +kernel
theorem dX10_write_35 : decode cX10_write 35 = .ok (.aload_n 0, 1) := by decide +kernel
theorem dX10_write_36 : decode cX10_write 36 = .ok (.bipush 97, 2) := by decide +kernel
theorem dX10_write_38 : decode cX10_write 38 = .ok (.invokevirtual 240, 3) := by decide +kernel
theorem dX10_write_41 : decode cX10_write 41 = .ok (.aload_n 0, 1) := by decide +kernel
theorem dX10_write_42 : decode cX10_write 42 = .ok (.aload_n 0, 1) := by decide +kernel
theorem dX10_write_43 : decode cX10_write 43 = .ok (.getfield 23, 3) := by decide +kernel
theorem dX10_write_46 : decode cX10_write 46 = .ok (.bipush 6, 2) := by decide +kernel
theorem dX10_write_48 : decode cX10_write 48 = .ok (.aload_n 0, 1) := by decide +kernel
theorem dX10_write_49 : decode cX10_write 49 = .ok (.getfield 66, 3) := by decide +kernel
theorem dX10_write_52 : decode cX10_write 52 = .ok (.imul, 1) := by decide +kernel
theorem dX10_write_53 : decode cX10_write 53 = .ok (.iaload, 1) := by decide +kernel
theorem dX10_write_54 : decode cX10_write 54 = .ok (.invokevirtual 243, 3) := by decide +kernel
theorem dX10_write_57 : decode cX10_write 57 = .ok (.aload_n 0, 1) := by decide +kernel
theorem dX10_write_58 : decode cX10_write 58 = .ok (.aload_n 0, 1) := by decide +kernel
theorem dX10_write_59 : decode cX10_write 59 = .ok (.getfield 23, 3) := by decide +kernel
theorem dX10_write_62 : decode cX10_write 62 = .ok (.bipush 6, 2) := by decide +kernel
theorem dX10_write_64 : decode cX10_write 64 = .ok (.aload_n 0, 1) := by decide +kernel
theorem dX10_write_65 : decode cX10_write 65 = .ok (.getfield 66, 3) := by decide +kernel
theorem dX10_write_68 : decode cX10_write 68 = .ok (.imul, 1) := by decide +kernel
theorem dX10_write_69 : decode cX10_write 69 = .ok (.iconst 1, 1) := by decide +kernel
theorem dX10_write_70 : decode cX10_write 70 = .ok (.iadd, 1) := by decide +kernel
theorem dX10_write_71 : decode cX10_write 71 = .ok (.iaload, 1) := by decide +kernel
theorem dX10_write_72 : decode cX10_write 72 = .ok (.invokevirtual 243, 3) := by decide +kernel
theorem dX10_write_75 : decode cX10_write 75 = .ok (.aload_n 0, 1) := by decide +kernel
theorem dX10_write_76 : decode cX10_write 76 = .ok (.getfield 23, 3) := by decide +kernel
theorem dX10_write_79 : decode cX10_write 79 = .ok (.bipush 6, 2) := by decide +kernel
theorem dX10_write_81 : decode cX10_write 81 = .ok (.aload_n 0, 1) := by decide +kernel
theorem dX10_write_82 : decode cX10_write 82 = .ok (.getfield 66, 3) := by decide +kernel
theorem dX10_write_85 : decode cX10_write 85 = .ok (.imul, 1) := by decide +kernel
theorem dX10_write_86 : decode cX10_write 86 = .ok (.iconst 2, 1) := by decide +kernel
theorem dX10_write_87 : decode cX10_write 87 = .ok (.iadd, 1) := by decide +kernel
theorem dX10_write_88 : decode cX10_write 88 = .ok (.iaload, 1) := by decide +kernel
theorem dX10_write_89 : decode cX10_write 89 = .ok (.istore_n 1, 1) := by decide +kernel
theorem dX10_write_90 : decode cX10_write 90 = .ok (.aload_n 0, 1) := by decide +kernel
theorem dX10_write_91 : decode cX10_write 91 = .ok (.bipush 112, 2) := by decide +kernel
theorem dX10_write_93 : decode cX10_write 93 = .ok (.iload_n 1, 1) := by decide +kernel
theorem dX10_write_94 : decode cX10_write 94 = .ok (.ifCond .le 9, 3) := by decide +kernel
theorem dX10_write_97 : decode cX10_write 97 = .ok (.sipush 128, 3) := by decide +kernel
theorem dX10_write_100 : decode cX10_write 100 = .ok (.goto 4, 3) := by decide +kernel
theorem dX10_write_103 : decode cX10_write 103 = .ok (.iconst 0, 1) := by decide +kernel
theorem dX10_write_104 : decode cX10_write 104 = .ok (.iadd, 1) := by decide +kernel
theorem dX10_write_105 : decode cX10_write 105 = .ok (.iload_n 1, 1) := by decide +kernel
theorem dX10_write_106 : decode cX10_write 106 = .ok (.invokestatic 246, 3) := by decide +kernel
theorem dX10_write_109 : decode cX10_write 109 = .ok (.iadd, 1) := by decide +kernel
theorem dX10_write_110 : decode cX10_write 110 = .ok (.invokevirtual 240, 3) := by decide +kernel
theorem dX10_write_113 : decode cX10_write 113 = .ok (.aload_n 0, 1) := by decide +kernel
theorem dX10_write_114 : decode cX10_write 114 = .ok (.aload_n 0, 1) := by decide +kernel
theorem dX10_write_115 : decode cX10_write 115 = .ok (.getfield 23, 3) := by decide +kernel
theorem dX10_write_118 : decode cX10_write 118 = .ok (.bipush 6, 2) := by decide +kernel
theorem dX10_write_120 : decode cX10_write 120 = .ok (.aload_n 0, 1) := by decide +kernel
theorem dX10_write_121 : decode cX10_write 121 = .ok (.getfield 66, 3) := by decide +kernel
theorem dX10_write_124 : decode cX10_write 124 = .ok (.imul, 1) := by decide +kernel
theorem dX10_write_125 : decode cX10_write 125 = .ok (.iconst 3, 1) := by decide +kernel
theorem dX10_write_126 : decode cX10_write 126 = .ok (.iadd, 1) := by decide +kernel
theorem dX10_write_127 : decode cX10_write 127 = .ok (.iaload, 1) := by decide +kernel
theorem dX10_write_128 : decode cX10_write 128 = .ok (.invokevirtual 240, 3) := by decide +kernel
theorem dX10_write_131 : decode cX10_write 131 = .ok (.aload_n 0, 1) := by decide +kernel
theorem dX10_write_132 : decode cX10_write 132 = .ok (.aload_n 0, 1) := by decide +kernel
theorem dX10_write_133 : decode cX10_write 133 = .ok (.getfield 23, 3) := by decide +kernel
theorem dX10_write_136 : decode cX10_write 136 = .ok (.bipush 6, 2) := by decide +kernel
theorem dX10_write_138 : decode cX10_write 138 = .ok (.aload_n 0, 1) := by decide +kernel
theorem dX10_write_139 : decode cX10_write 139 = .ok (.getfield 66, 3) := by decide +kernel
theorem dX10_write_142 : decode cX10_write 142 = .ok (.imul, 1) := by decide +kernel
theorem dX10_write_143 : decode cX10_write 143 = .ok (.iconst 4, 1) := by decide +kernel
theorem dX10_write_144 : decode cX10_write 144 = .ok (.iadd, 1) := by decide +kernel
theorem dX10_write_145 : decode cX10_write 145 = .ok (.iaload, 1) := by decide +kernel
theorem dX10_write_146 : decode cX10_write 146 = .ok (.invokevirtual 240, 3) := by decide +kernel
theorem dX10_write_149 : decode cX10_write 149 = .ok (.aload_n 0, 1) := by decide +kernel
theorem dX10_write_150 : decode cX10_write 150 = .ok (.aload_n 0, 1) := by decide +kernel
theorem dX10_write_151 : decode cX10_write 151 = .ok (.getfield 27, 3) := by decide +kernel
theorem dX10_write_154 : decode cX10_write 154 = .ok (.sipush 256, 3) := by decide +kernel
theorem dX10_write_157 : decode cX10_write 157 = .ok (.aload_n 0, 1) := by decide +kernel
theorem dX10_write_158 : decode cX10_write 158 = .ok (.getfield 66, 3) := by decide +kernel
theorem dX10_write_161 : decode cX10_write 161 = .ok (.imul, 1) := by decide +kernel
theorem dX10_write_162 : decode cX10_write 162 = .ok (.iload_n 1, 1) := by decide +kernel
theorem dX10_write_163 : decode cX10_write 163 = .ok (.invokevirtual 250, 3) := by decide +kernel
theorem dX10_write_166 : decode cX10_write 166 = .ok (.iconst 0, 1) := by decide +kernel
theorem dX10_write_167 : decode cX10_write 167 = .ok (.istore_n 2, 1) := by decide +kernel
theorem dX10_write_168 : decode cX10_write 168 = .ok (.iload_n 2, 1) := by decide +kernel
theorem dX10_write_169 : decode cX10_write 169 = .ok (.aload_n 0, 1) := by decide +kernel
theorem dX10_write_170 : decode cX10_write 170 = .ok (.invokevirtual 69, 3) := by decide +kernel
theorem dX10_write_173 : decode cX10_write 173 = .ok (.if_icmp .ge 14, 3) := by decide +kernel
theorem dX10_write_176 : decode cX10_write 176 = .ok (.aload_n 0, 1) := by decide +kernel
theorem dX10_write_177 : decode cX10_write 177 = .ok (.iload_n 2, 1) := by decide +kernel
theorem dX10_write_178 : decode cX10_write 178 = .ok (.invokevirtual 253, 3) := by decide +kernel
theorem dX10_write_181 : decode cX10_write 181 = .ok (.iinc 2 1, 3) := by decide +kernel
theorem dX10_write_184 : decode cX10_write 184 = .ok (.goto (-16), 3) := by decide +kernel
theorem dX10_write_187 : decode cX10_write 187 = .ok (.aload_n 0, 1) := by decide +kernel
theorem dX10_write_188 : decode cX10_write 188 = .ok (.bipush 59, 2) := by decide +kernel
theorem dX10_write_190 : decode cX10_write 190 = .ok (.invokevirtual 240, 3) := by decide +kernel
theorem dX10_write_193 : decode cX10_write 193 = .ok (.aload_n 0, 1) := by decide +kernel
theorem dX10_write_194 : decode cX10_write 194 = .ok (.getfield 237, 3) := by decide +kernel
theorem dX10_write_197 : decode cX10_write 197 = .ok (.sipush 12000, 3) := by decide +kernel
theorem dX10_write_200 : decode cX10_write 200 = .ok (.if_icmp .le 5, 3) := by decide +kernel
theorem dX10_write_203 : decode cX10_write 203 = .ok (.iconst (-1), 1) := by decide +kernel
theorem dX10_write_204 : decode cX10_write 204 = .ok (.ireturn, 1) := by decide +kernel
theorem dX10_write_205 : decode cX10_write 205 = .ok (.iconst 0, 1) := by decide +kernel
theorem dX10_write_206 : decode cX10_write 206 = .ok (.istore_n 2, 1) := by decide +kernel
theorem dX10_write_207 : decode cX10_write 207 = .ok (.iload_n 2, 1) := by decide +kernel
theorem dX10_write_208 : decode cX10_write 208 = .ok (.aload_n 0, 1) := by decide +kernel
theorem dX10_write_209 : decode cX10_write 209 = .ok (.getfield 237, 3) := by decide +kernel
theorem dX10_write_212 : decode cX10_write 212 = .ok (.if_icmp .ge 21, 3) := by decide +kernel
theorem dX10_write_215 : decode cX10_write 215 = .ok (.aload_n 0, 1) := by decide +kernel
theorem dX10_write_216 : decode cX10_write 216 = .ok (.getfield 13, 3) := by decide +kernel
theorem dX10_write_219 : decode cX10_write 219 = .ok (.iload_n 2, 1) := by decide +kernel
theorem dX10_write_220 : decode cX10_write 220 = .ok (.aload_n 0, 1) := by decide +kernel
theorem dX10_write_221 : decode cX10_write 221 = .ok (.getfield 41, 3) := by decide +kernel
theorem dX10_write_224 : decode cX10_write 224 = .ok (.iload_n 2, 1) := by decide +kernel
theorem dX10_write_225 : decode cX10_write 225 = .ok (.baload, 1) := by decide +kernel
theorem dX10_write_226 : decode cX10_write 226 = .ok (.bastore, 1) := by decide +kernel
theorem dX10_write_227 : decode cX10_write 227 = .ok (.iinc 2 1, 3) := by decide +kernel
theorem dX10_write_230 : decode cX10_write 230 = .ok (.goto (-23), 3) := by decide +kernel
theorem dX10_write_233 : decode cX10_write 233 = .ok (.aload_n 0, 1) := by decide +kernel
theorem dX10_write_234 : decode cX10_write 234 = .ok (.aload_n 0, 1) := by decide +kernel
theorem dX10_write_235 : decode cX10_write 235 = .ok (.getfield 237, 3) := by decide +kernel
theorem dX10_write_238 : decode cX10_write 238 = .ok (.putfield 83, 3) := by decide +kernel
theorem dX10_write_241 : decode cX10_write 241 = .ok (.aload_n 0, 1) := by decide +kernel
theorem dX10_write_242 : decode cX10_write 242 = .ok (.getfield 83, 3) := by decide +kernel
theorem dX10_write_245 : decode cX10_write 245 = .ok (.ireturn, 1) := by decide +kernel
theorem dX10_sayFrame_0 : decode cX10_sayFrame 0 = .ok (.aload_n 0, 1) := by decide +kernel
theorem dX10_sayFrame_1 : decode cX10_sayFrame 1 = .ok (.aload_n 0, 1) := by decide +kernel
theorem dX10_sayFrame_2 : decode cX10_sayFrame 2 = .ok (.getfield 66, 3) := by decide +kernel
theorem dX10_sayFrame_5 : decode cX10_sayFrame 5 = .ok (.iload_n 1, 1) := by decide +kernel
theorem dX10_sayFrame_6 : decode cX10_sayFrame 6 = .ok (.bipush 7, 2) := by decide +kernel
theorem dX10_sayFrame_8 : decode cX10_sayFrame 8 = .ok (.invokevirtual 73, 3) := by decide +kernel
theorem dX10_sayFrame_11 : decode cX10_sayFrame 11 = .ok (.istore_n 2, 1) := by decide +kernel
theorem dX10_sayFrame_12 : decode cX10_sayFrame 12 = .ok (.aload_n 0, 1) := by decide +kernel
theorem dX10_sayFrame_13 : decode cX10_sayFrame 13 = .ok (.bipush 33, 2) := by decide +kernel
theorem dX10_sayFrame_15 : decode cX10_sayFrame 15 = .ok (.invokevirtual 240, 3) := by decide +kernel
theorem dX10_sayFrame_18 : decode cX10_sayFrame 18 = .ok (.aload_n 0, 1) := by decide +kernel
theorem dX10_sayFrame_19 : decode cX10_sayFrame 19 = .ok (.sipush 249, 3) := by decide +kernel
theorem dX10_sayFrame_22 : decode cX10_sayFrame 22 = .ok (.invokevirtual 240, 3) := by decide +kernel
theorem dX10_sayFrame_25 : decode cX10_sayFrame 25 = .ok (.aload_n 0, 1) := by decide +kernel
theorem dX10_sayFrame_26 : decode cX10_sayFrame 26 = .ok (.iconst 4, 1) := by decide +kernel
theorem dX10_sayFrame_27 : decode cX10_sayFrame 27 = .ok (.invokevirtual 240, 3) := by decide +kernel
theorem dX10_sayFrame_30 : decode cX10_sayFrame 30 = .ok (.aload_n 0, 1) := by decide +kernel
theorem dX10_sayFrame_31 : decode cX10_sayFrame 31 = .ok (.aload_n 0, 1) := by decide +kernel
theorem dX10_sayFrame_32 : decode cX10_sayFrame 32 = .ok (.aload_n 0, 1) := by decide +kernel
theorem dX10_sayFrame_33 : decode cX10_sayFrame 33 = .ok (.getfield 66, 3) := by decide +kernel
theorem dX10_sayFrame_36 : decode cX10_sayFrame 36 = .ok (.iload_n 1, 1) := by decide +kernel
theorem dX10_sayFrame_37 : decode cX10_sayFrame 37 = .ok (.bipush 6, 2) := by decide +kernel
theorem dX10_sayFrame_39 : decode cX10_sayFrame 39 = .ok (.invokevirtual 73, 3) := by decide +kernel
theorem dX10_sayFrame_42 : decode cX10_sayFrame 42 = .ok (.iconst 2, 1) := by decide +kernel
theorem dX10_sayFrame_43 : decode cX10_sayFrame 43 = .ok (.ishl, 1) := by decide +kernel
theorem dX10_sayFrame_44 : decode cX10_sayFrame 44 = .ok (.aload_n 0, 1) := by decide +kernel
theorem dX10_sayFrame_45 : decode cX10_sayFrame 45 = .ok (.aload_n 0, 1) := by decide +kernel
theorem dX10_sayFrame_46 : decode cX10_sayFrame 46 = .ok (.getfield 66, 3) := by decide +kernel
theorem dX10_sayFrame_49 : decode cX10_sayFrame 49 = .ok (.iload_n 1, 1) := by decide +kernel
theorem dX10_sayFrame_50 : decode cX10_sayFrame 50 = .ok (.bipush 9, 2) := by decide +kernel
theorem dX10_sayFrame_52 : decode cX10_sayFrame 52 = .ok (.invokevirtual 73, 3) := by decide +kernel
theorem dX10_sayFrame_55 : decode cX10_sayFrame 55 = .ok (.iconst 1, 1) := by decide +kernel
theorem dX10_sayFrame_56 : decode cX10_sayFrame 56 = .ok (.ishl, 1) := by decide +kernel
theorem dX10_sayFrame_57 : decode cX10_sayFrame 57 = .ok (.ior, 1) := by decide +kernel
theorem dX10_sayFrame_58 : decode cX10_sayFrame 58 = .ok (.iload_n 2, 1) := by decide +kernel
theorem dX10_sayFrame_59 : decode cX10_sayFrame 59 = .ok (.ifCond .ge 7, 3) := by decide +kernel
theorem dX10_sayFrame_62 : decode cX10_sayFrame 62 = .ok (.iconst 0, 1) := by decide +kernel
theorem dX10_sayFrame_63 : decode cX10_sayFrame 63 = .ok (.goto 4, 3) := by decide +kernel
theorem dX10_sayFrame_66 : decode cX10_sayFrame 66 = .ok (.iconst 1, 1) := by decide +kernel
theorem dX10_sayFrame_67 : decode cX10_sayFrame 67 = .ok (.ior, 1) := by decide +kernel
theorem dX10_sayFrame_68 : decode cX10_sayFrame 68 = .ok (.invokevirtual 240, 3) := by decide +kernel
theorem dX10_sayFrame_71 : decode cX10_sayFrame 71 = .ok (.aload_n 0, 1) := by decide +kernel
theorem dX10_sayFrame_72 : decode cX10_sayFrame 72 = .ok (.aload_n 0, 1) := by decide +kernel
theorem dX10_sayFrame_73 : decode cX10_sayFrame 73 = .ok (.aload_n 0, 1) := by decide +kernel
theorem dX10_sayFrame_74 : decode cX10_sayFrame 74 = .ok (.getfield 66, 3) := by decide +kernel
theorem dX10_sayFrame_77 : decode cX10_sayFrame 77 = .ok (.iload_n 1, 1) := by decide +kernel
theorem dX10_sayFrame_78 : decode cX10_sayFrame 78 = .ok (.bipush 8, 2) := by decide +kernel
theorem dX10_sayFrame_80 : decode cX10_sayFrame 80 = .ok (.invokevirtual 73, 3) := by decide +kernel
theorem dX10_sayFrame_83 : decode cX10_sayFrame 83 = .ok (.invokevirtual 243, 3) := by decide +kernel
theorem dX10_sayFrame_86 : decode cX10_sayFrame 86 = .ok (.aload_n 0, 1) := by decide +kernel
theorem dX10_sayFrame_87 : decode cX10_sayFrame 87 = .ok (.iload_n 2, 1) := by decide +kernel
theorem dX10_sayFrame_88 : decode cX10_sayFrame 88 = .ok (.ifCond .ge 7, 3) := by decide +kernel
theorem dX10_sayFrame_91 : decode cX10_sayFrame 91 = .ok (.iconst 0, 1) := by decide +kernel
theorem dX10_sayFrame_92 : decode cX10_sayFrame 92 = .ok (.goto 4, 3) := by decide +kernel
theorem dX10_sayFrame_95 : decode cX10_sayFrame 95 = .ok (.iload_n 2, 1) := by decide +kernel
theorem dX10_sayFrame_96 : decode cX10_sayFrame 96 = .ok (.invokevirtual 240, 3) := by decide +kernel
theorem dX10_sayFrame_99 : decode cX10_sayFrame 99 = .ok (.aload_n 0, 1) := by decide +kernel
theorem dX10_sayFrame_100 : decode cX10_sayFrame 100 = .ok (.iconst 0, 1) := by decide +kernel
theorem dX10_sayFrame_101 : decode cX10_sayFrame 101 = .ok (.invokevirtual 240, 3) := by decide +kernel
theorem dX10_sayFrame_104 : decode cX10_sayFrame 104 = .ok (.aload_n 0, 1) := by decide +kernel
theorem dX10_sayFrame_105 : decode cX10_sayFrame 105 = .ok (.bipush 44, 2) := by decide +kernel
theorem dX10_sayFrame_107 : decode cX10_sayFrame 107 = .ok (.invokevirtual 240, 3) := by decide +kernel
theorem dX10_sayFrame_110 : decode cX10_sayFrame 110 = .ok (.iconst 0, 1) := by decide +kernel
theorem dX10_sayFrame_111 : decode cX10_sayFrame 111 = .ok (.istore_n 3, 1) := by decide +kernel
theorem dX10_sayFrame_112 : decode cX10_sayFrame 112 = .ok (.iload_n 3, 1) := by decide +kernel
theorem dX10_sayFrame_113 : decode cX10_sayFrame 113 = .ok (.iconst 4, 1) := by decide +kernel
theorem dX10_sayFrame_114 : decode cX10_sayFrame 114 = .ok (.if_icmp .ge 23, 3) := by decide +kernel
theorem dX10_sayFrame_117 : decode cX10_sayFrame 117 = .ok (.aload_n 0, 1) := by decide +kernel
theorem dX10_sayFrame_118 : decode cX10_sayFrame 118 = .ok (.aload_n 0, 1) := by decide +kernel
theorem dX10_sayFrame_119 : decode cX10_sayFrame 119 = .ok (.aload_n 0, 1) := by decide +kernel
theorem dX10_sayFrame_120 : decode cX10_sayFrame 120 = .ok (.getfield 66, 3) := by decide +kernel
theorem dX10_sayFrame_123 : decode cX10_sayFrame 123 = .ok (.iload_n 1, 1) := by decide +kernel
theorem dX10_sayFrame_124 : decode cX10_sayFrame 124 = .ok (.iload_n 3, 1) := by decide +kernel
theorem dX10_sayFrame_125 : decode cX10_sayFrame 125 = .ok (.invokevirtual 73, 3) := by decide +kernel
theorem dX10_sayFrame_128 : decode cX10_sayFrame 128 = .ok (.invokevirtual 243, 3) := by decide +kernel
theorem dX10_sayFrame_131 : decode cX10_sayFrame 131 = .ok (.iinc 3 1, 3) := by decide +kernel
theorem dX10_sayFrame_134 : decode cX10_sayFrame 134 = .ok (.goto (-22), 3) := by decide +kernel
theorem dX10_sayFrame_137 : decode cX10_sayFrame 137 = .ok (.aload_n 0, 1) := by decide +kernel
theorem dX10_sayFrame_138 : decode cX10_sayFrame 138 = .ok (.aload_n 0, 1) := by decide +kernel
theorem dX10_sayFrame_139 : decode cX10_sayFrame 139 = .ok (.getfield 66, 3) := by decide +kernel
theorem dX10_sayFrame_142 : decode cX10_sayFrame 142 = .ok (.iload_n 1, 1) := by decide +kernel
theorem dX10_sayFrame_143 : decode cX10_sayFrame 143 = .ok (.iconst 4, 1) := by decide +kernel
theorem dX10_sayFrame_144 : decode cX10_sayFrame 144 = .ok (.invokevirtual 73, 3) := by decide +kernel
theorem dX10_sayFrame_147 : decode cX10_sayFrame 147 = .ok (.istore_n 3, 1) := by decide +kernel
theorem dX10_sayFrame_148 : decode cX10_sayFrame 148 = .ok (.aload_n 0, 1) := by decide +kernel
theorem dX10_sayFrame_149 : decode cX10_sayFrame 149 = .ok (.iload_n 3, 1) := by decide +kernel
theorem dX10_sayFrame_150 : decode cX10_sayFrame 150 = .ok (.ifCond .le 9, 3) := by decide +kernel
theorem dX10_sayFrame_153 : decode cX10_sayFrame 153 = .ok (.sipush 128, 3) := by decide +kernel
theorem dX10_sayFrame_156 : decode cX10_sayFrame 156 = .ok (.goto 4, 3) := by decide +kernel
theorem dX10_sayFrame_159 : decode cX10_sayFrame 159 = .ok (.iconst 0, 1) := by decide +kernel
theorem dX10_sayFrame_160 : decode cX10_sayFrame 160 = .ok (.aload_n 0, 1) := by decide +kernel
theorem dX10_sayFrame_161 : decode cX10_sayFrame 161 = .ok (.aload_n 0, 1) := by decide +kernel
theorem dX10_sayFrame_162 : decode cX10_sayFrame 162 = .ok (.getfield 66, 3) := by decide +kernel
theorem dX10_sayFrame_165 : decode cX10_sayFrame 165 = .ok (.iload_n 1, 1) := by decide +kernel
theorem dX10_sayFrame_166 : decode cX10_sayFrame 166 = .ok (.iconst 5, 1) := by decide +kernel
theorem dX10_sayFrame_167 : decode cX10_sayFrame 167 = .ok (.invokevirtual 73, 3) := by decide +kernel
theorem dX10_sayFrame_170 : decode cX10_sayFrame 170 = .ok (.bipush 6, 2) := by decide +kernel
theorem dX10_sayFrame_172 : decode cX10_sayFrame 172 = .ok (.ishl, 1) := by decide +kernel
theorem dX10_sayFrame_173 : decode cX10_sayFrame 173 = .ok (.ior, 1) := by decide +kernel
theorem dX10_sayFrame_174 : decode cX10_sayFrame 174 = .ok (.iload_n 3, 1) := by decide +kernel
theorem dX10_sayFrame_175 : decode cX10_sayFrame 175 = .ok (.invokestatic 246, 3) := by decide +kernel
theorem dX10_sayFrame_178 : decode cX10_sayFrame 178 = .ok (.ior, 1) := by decide +kernel
theorem dX10_sayFrame_179 : decode cX10_sayFrame 179 = .ok (.invokevirtual 240, 3) := by decide +kernel
theorem dX10_sayFrame_182 : decode cX10_sayFrame 182 = .ok (.aload_n 0, 1) := by decide +kernel
theorem dX10_sayFrame_183 : decode cX10_sayFrame 183 = .ok (.aload_n 0, 1) := by decide +kernel
theorem dX10_sayFrame_184 : decode cX10_sayFrame 184 = .ok (.getfield 33, 3) := by decide +kernel
theorem dX10_sayFrame_187 : decode cX10_sayFrame 187 = .ok (.aload_n 0, 1) := by decide +kernel
theorem dX10_sayFrame_188 : decode cX10_sayFrame 188 = .ok (.getfield 66, 3) := by decide +kernel
theorem dX10_sayFrame_191 : decode cX10_sayFrame 191 = .ok (.iload_n 1, 1) := by decide +kernel
theorem dX10_sayFrame_192 : decode cX10_sayFrame 192 = .ok (.iconst 0, 1) := by decide +kernel
theorem dX10_sayFrame_193 : decode cX10_sayFrame 193 = .ok (.invokestatic 160, 3) := by decide +kernel
theorem dX10_sayFrame_196 : decode cX10_sayFrame 196 = .ok (.iload_n 3, 1) := by decide +kernel
theorem dX10_sayFrame_197 : decode cX10_sayFrame 197 = .ok (.invokevirtual 250, 3) := by decide +kernel
theorem dX10_sayFrame_200 : decode cX10_sayFrame 200 = .ok (.aload_n 0, 1) := by decide +kernel
theorem dX10_sayFrame_201 : decode cX10_sayFrame 201 = .ok (.aload_n 0, 1) := by decide +kernel
theorem dX10_sayFrame_202 : decode cX10_sayFrame 202 = .ok (.getfield 66, 3) := by decide +kernel
theorem dX10_sayFrame_205 : decode cX10_sayFrame 205 = .ok (.iload_n 1, 1) := by decide +kernel
theorem dX10_sayFrame_206 : decode cX10_sayFrame 206 = .ok (.invokevirtual 193, 3) := by decide +kernel
theorem dX10_sayFrame_209 : decode cX10_sayFrame 209 = .ok (.invokestatic 246, 3) := by decide +kernel
theorem dX10_sayFrame_212 : decode cX10_sayFrame 212 = .ok (.iconst 1, 1) := by decide +kernel
theorem dX10_sayFrame_213 : decode cX10_sayFrame 213 = .ok (.iadd, 1) := by decide +kernel
theorem dX10_sayFrame_214 : decode cX10_sayFrame 214 = .ok (.istore 4, 2) := by decide +kernel
theorem dX10_sayFrame_216 : decode cX10_sayFrame 216 = .ok (.iload 4, 2) := by decide +kernel
theorem dX10_sayFrame_218 : decode cX10_sayFrame 218 = .ok (.iconst 2, 1) := by decide +kernel
theorem dX10_sayFrame_219 : decode cX10_sayFrame 219 = .ok (.if_icmp .ge 6, 3) := by decide +kernel
theorem dX10_sayFrame_222 : decode cX10_sayFrame 222 = .ok (.iconst 2, 1) := by decide +kernel
theorem dX10_sayFrame_223 : decode cX10_sayFrame 223 = .ok (.istore 4, 2) := by decide +kernel
theorem dX10_sayFrame_225 : decode cX10_sayFrame 225 = .ok (.aload_n 0, 1) := by decide +kernel
theorem dX10_sayFrame_226 : decode cX10_sayFrame 226 = .ok (.iload 4, 2) := by decide +kernel
theorem dX10_sayFrame_228 : decode cX10_sayFrame 228 = .ok (.invokevirtual 240, 3) := by decide +kernel
theorem dX10_sayFrame_231 : decode cX10_sayFrame 231 = .ok (.aload_n 0, 1) := by decide +kernel
theorem dX10_sayFrame_232 : decode cX10_sayFrame 232 = .ok (.iload 4, 2) := by decide +kernel
theorem dX10_sayFrame_234 : decode cX10_sayFrame 234 = .ok (.iload_n 1, 1) := by decide +kernel
theorem dX10_sayFrame_235 : decode cX10_sayFrame 235 = .ok (.invokevirtual 256, 3) := by decide +kernel
theorem dX10_sayFrame_238 : decode cX10_sayFrame 238 = .ok (.aload_n 0, 1) := by decide +kernel
theorem dX10_sayFrame_239 : decode cX10_sayFrame 239 = .ok (.getfield 259, 3) := by decide +kernel
theorem dX10_sayFrame_242 : decode cX10_sayFrame 242 = .ok (.ifCond .le 7, 3) := by decide +kernel
theorem dX10_sayFrame_245 : decode cX10_sayFrame 245 = .ok (.aload_n 0, 1) := by decide +kernel
theorem dX10_sayFrame_246 : decode cX10_sayFrame 246 = .ok (.invokevirtual 262, 3) := by decide +kernel
theorem dX10_sayFrame_249 : decode cX10_sayFrame 249 = .ok (.aload_n 0, 1) := by decide +kernel
theorem dX10_sayFrame_250 : decode cX10_sayFrame 250 = .ok (.iconst 0, 1) := by decide +kernel
theorem dX10_sayFrame_251 : decode cX10_sayFrame 251 = .ok (.invokevirtual 240, 3) := by decide +kernel
theorem dX10_sayFrame_254 : decode cX10_sayFrame 254 = .ok (.return_, 1) := by decide +kernel
theorem dX10_sayRow_0 : decode cX10_sayRow 0 = .ok (.aload_n 0, 1) := by decide +kernel
theorem dX10_sayRow_1 : decode cX10_sayRow 1 = .ok (.aload_n 0, 1) := by decide +kernel
theorem dX10_sayRow_2 : decode cX10_sayRow 2 = .ok (.getfield 259, 3) := by decide +kernel
theorem dX10_sayRow_5 : decode cX10_sayRow 5 = .ok (.invokevirtual 240, 3) := by decide +kernel
theorem dX10_sayRow_8 : decode cX10_sayRow 8 = .ok (.iconst 0, 1) := by decide +kernel
theorem dX10_sayRow_9 : decode cX10_sayRow 9 = .ok (.istore_n 1, 1) := by decide +kernel
theorem dX10_sayRow_10 : decode cX10_sayRow 10 = .ok (.iload_n 1, 1) := by decide +kernel
theorem dX10_sayRow_11 : decode cX10_sayRow 11 = .ok (.aload_n 0, 1) := by decide +kernel
theorem dX10_sayRow_12 : decode cX10_sayRow 12 = .ok (.getfield 259, 3) := by decide +kernel
theorem dX10_sayRow_15 : decode cX10_sayRow 15 = .ok (.if_icmp .ge 19, 3) := by decide +kernel
theorem dX10_sayRow_18 : decode cX10_sayRow 18 = .ok (.aload_n 0, 1) := by decide +kernel
theorem dX10_sayRow_19 : decode cX10_sayRow 19 = .ok (.aload_n 0, 1) := by decide +kernel
theorem dX10_sayRow_20 : decode cX10_sayRow 20 = .ok (.getfield 56, 3) := by decide +kernel
theorem dX10_sayRow_23 : decode cX10_sayRow 23 = .ok (.iload_n 1, 1) := by decide +kernel
theorem dX10_sayRow_24 : decode cX10_sayRow 24 = .ok (.baload, 1) := by decide +kernel
theorem dX10_sayRow_25 : decode cX10_sayRow 25 = .ok (.invokevirtual 240, 3) := by decide +kernel
theorem dX10_sayRow_28 : decode cX10_sayRow 28 = .ok (.iinc 1 1, 3) := by decide +kernel
theorem dX10_sayRow_31 : decode cX10_sayRow 31 = .ok (.goto (-21), 3) := by decide +kernel
theorem dX10_sayRow_34 : decode cX10_sayRow 34 = .ok (.aload_n 0, 1) := by decide +kernel
theorem dX10_sayRow_35 : decode cX10_sayRow 35 = .ok (.iconst 0, 1) := by decide +kernel
theorem dX10_sayRow_36 : decode cX10_sayRow 36 = .ok (.putfield 259, 3) := by decide +kernel
theorem dX10_sayRow_39 : decode cX10_sayRow 39 = .ok (.return_, 1) := by decide +kernel
theorem dX10_sayBits_0 : decode cX10_sayBits 0 = .ok (.aload_n 0, 1) := by decide +kernel
theorem dX10_sayBits_1 : decode cX10_sayBits 1 = .ok (.dup, 1) := by decide +kernel
theorem dX10_sayBits_2 : decode cX10_sayBits 2 = .ok (.getfield 265, 3) := by decide +kernel
theorem dX10_sayBits_5 : decode cX10_sayBits 5 = .ok (.iload_n 1, 1) := by decide +kernel
theorem dX10_sayBits_6 : decode cX10_sayBits 6 = .ok (.aload_n 0, 1) := by decide +kernel
theorem dX10_sayBits_7 : decode cX10_sayBits 7 = .ok (.getfield 268, 3) := by decide +kernel
theorem dX10_sayBits_10 : decode cX10_sayBits 10 = .ok (.ishl, 1) := by decide +kernel
theorem dX10_sayBits_11 : decode cX10_sayBits 11 = .ok (.ior, 1) := by decide +kernel
theorem dX10_sayBits_12 : decode cX10_sayBits 12 = .ok (.putfield 265, 3) := by decide +kernel
theorem dX10_sayBits_15 : decode cX10_sayBits 15 = .ok (.aload_n 0, 1) := by decide +kernel
theorem dX10_sayBits_16 : decode cX10_sayBits 16 = .ok (.dup, 1) := by decide +kernel
theorem dX10_sayBits_17 : decode cX10_sayBits 17 = .ok (.getfield 268, 3) := by decide +kernel
theorem dX10_sayBits_20 : decode cX10_sayBits 20 = .ok (.iload_n 2, 1) := by decide +kernel
theorem dX10_sayBits_21 : decode cX10_sayBits 21 = .ok (.iadd, 1) := by decide +kernel
theorem dX10_sayBits_22 : decode cX10_sayBits 22 = .ok (.putfield 268, 3) := by decide +kernel
theorem dX10_sayBits_25 : decode cX10_sayBits 25 = .ok (.aload_n 0, 1) := by decide +kernel
theorem dX10_sayBits_26 : decode cX10_sayBits 26 = .ok (.getfield 268, 3) := by decide +kernel
theorem dX10_sayBits_29 : decode cX10_sayBits 29 = .ok (.bipush 8, 2) := by decide +kernel
theorem dX10_sayBits_31 : decode cX10_sayBits 31 = .ok (.if_icmp .lt 66, 3) := by decide +kernel
theorem dX10_sayBits_34 : decode cX10_sayBits 34 = .ok (.aload_n 0, 1) := by decide +kernel
theorem dX10_sayBits_35 : decode cX10_sayBits 35 = .ok (.getfield 56, 3) := by decide +kernel
theorem dX10_sayBits_38 : decode cX10_sayBits 38 = .ok (.aload_n 0, 1) := by decide +kernel
theorem dX10_sayBits_39 : decode cX10_sayBits 39 = .ok (.getfield 259, 3) := by decide +kernel
theorem dX10_sayBits_42 : decode cX10_sayBits 42 = .ok (.aload_n 0, 1) := by decide +kernel
theorem dX10_sayBits_43 : decode cX10_sayBits 43 = .ok (.getfield 265, 3) := by decide +kernel
theorem dX10_sayBits_46 : decode cX10_sayBits 46 = .ok (.i2b, 1) := by decide +kernel
theorem dX10_sayBits_47 : decode cX10_sayBits 47 = .ok (.bastore, 1) := by decide +kernel
theorem dX10_sayBits_48 : decode cX10_sayBits 48 = .ok (.aload_n 0, 1) := by decide +kernel
theorem dX10_sayBits_49 : decode cX10_sayBits 49 = .ok (.dup, 1) := by decide +kernel
theorem dX10_sayBits_50 : decode cX10_sayBits 50 = .ok (.getfield 259, 3) := by decide +kernel
theorem dX10_sayBits_53 : decode cX10_sayBits 53 = .ok (.iconst 1, 1) := by decide +kernel
theorem dX10_sayBits_54 : decode cX10_sayBits 54 = .ok (.iadd, 1) := by decide +kernel
theorem dX10_sayBits_55 : decode cX10_sayBits 55 = .ok (.putfield 259, 3) := by decide +kernel
theorem dX10_sayBits_58 : decode cX10_sayBits 58 = .ok (.aload_n 0, 1) := by decide +kernel
theorem dX10_sayBits_59 : decode cX10_sayBits 59 = .ok (.getfield 259, 3) := by decide +kernel
theorem dX10_sayBits_62 : decode cX10_sayBits 62 = .ok (.sipush 255, 3) := by decide +kernel
theorem dX10_sayBits_65 : decode cX10_sayBits 65 = .ok (.if_icmp .ne 7, 3) := by decide +kernel
theorem dX10_sayBits_68 : decode cX10_sayBits 68 = .ok (.aload_n 0, 1) := by decide +kernel
theorem dX10_sayBits_69 : decode cX10_sayBits 69 = .ok (.invokevirtual 262, 3) := by decide +kernel
theorem dX10_sayBits_72 : decode cX10_sayBits 72 = .ok (.aload_n 0, 1) := by decide +kernel
theorem dX10_sayBits_73 : decode cX10_sayBits 73 = .ok (.dup, 1) := by decide +kernel
theorem dX10_sayBits_74 : decode cX10_sayBits 74 = .ok (.getfield 265, 3) := by decide +kernel
theorem dX10_sayBits_77 : decode cX10_sayBits 77 = .ok (.bipush 8, 2) := by decide +kernel
theorem dX10_sayBits_79 : decode cX10_sayBits 79 = .ok (.iushr, 1) := by decide +kernel
theorem dX10_sayBits_80 : decode cX10_sayBits 80 = .ok (.putfield 265, 3) := by decide +kernel
theorem dX10_sayBits_83 : decode cX10_sayBits 83 = .ok (.aload_n 0, 1) := by decide +kernel
theorem dX10_sayBits_84 : decode cX10_sayBits 84 = .ok (.dup, 1) := by decide +kernel
theorem dX10_sayBits_85 : decode cX10_sayBits 85 = .ok (.getfield 268, 3) := by decide +kernel
theorem dX10_sayBits_88 : decode cX10_sayBits 88 = .ok (.bipush 8, 2) := by decide +kernel
theorem dX10_sayBits_90 : decode cX10_sayBits 90 = .ok (.isub, 1) := by decide +kernel
theorem dX10_sayBits_91 : decode cX10_sayBits 91 = .ok (.putfield 268, 3) := by decide +kernel
theorem dX10_sayBits_94 : decode cX10_sayBits 94 = .ok (.goto (-69), 3) := by decide +kernel
theorem dX10_sayBits_97 : decode cX10_sayBits 97 = .ok (.return_, 1) := by decide +kernel
theorem dX10_indexOf_0 : decode cX10_indexOf 0 = .ok (.aload_n 0, 1) := by decide +kernel
theorem dX10_indexOf_1 : decode cX10_indexOf 1 = .ok (.aload_n 0, 1) := by decide +kernel
theorem dX10_indexOf_2 : decode cX10_indexOf 2 = .ok (.getfield 66, 3) := by decide +kernel
theorem dX10_indexOf_5 : decode cX10_indexOf 5 = .ok (.iload_n 1, 1) := by decide +kernel
theorem dX10_indexOf_6 : decode cX10_indexOf 6 = .ok (.aload_n 0, 1) := by decide +kernel
theorem dX10_indexOf_7 : decode cX10_indexOf 7 = .ok (.aload_n 0, 1) := by decide +kernel
theorem dX10_indexOf_8 : decode cX10_indexOf 8 = .ok (.getfield 66, 3) := by decide +kernel
theorem dX10_indexOf_11 : decode cX10_indexOf 11 = .ok (.iload_n 1, 1) := by decide +kernel
theorem dX10_indexOf_12 : decode cX10_indexOf 12 = .ok (.iload_n 2, 1) := by decide +kernel
theorem dX10_indexOf_13 : decode cX10_indexOf 13 = .ok (.invokevirtual 212, 3) := by decide +kernel
theorem dX10_indexOf_16 : decode cX10_indexOf 16 = .ok (.invokevirtual 271, 3) := by decide +kernel
theorem dX10_indexOf_19 : decode cX10_indexOf 19 = .ok (.ireturn, 1) := by decide +kernel
theorem dX10_stands_0 : decode cX10_stands 0 = .ok (.iload_n 3, 1) := by decide +kernel
theorem dX10_stands_1 : decode cX10_stands 1 = .ok (.aload_n 0, 1) := by decide +kernel
theorem dX10_stands_2 : decode cX10_stands 2 = .ok (.getfield 53, 3) := by decide +kernel
theorem dX10_stands_5 : decode cX10_stands 5 = .ok (.iload_n 1, 1) := by decide +kernel
theorem dX10_stands_6 : decode cX10_stands 6 = .ok (.saload, 1) := by decide +kernel
theorem dX10_stands_7 : decode cX10_stands 7 = .ok (.iadd, 1) := by decide +kernel
theorem dX10_stands_8 : decode cX10_stands 8 = .ok (.iload 4, 2) := by decide +kernel
theorem dX10_stands_10 : decode cX10_stands 10 = .ok (.if_icmp .le 5, 3) := by decide +kernel
theorem dX10_stands_13 : decode cX10_stands 13 = .ok (.iconst 0, 1) := by decide +kernel
theorem dX10_stands_14 : decode cX10_stands 14 = .ok (.ireturn, 1) := by decide +kernel
theorem dX10_stands_15 : decode cX10_stands 15 = .ok (.iload_n 3, 1) := by decide +kernel
theorem dX10_stands_16 : decode cX10_stands 16 = .ok (.aload_n 0, 1) := by decide +kernel
theorem dX10_stands_17 : decode cX10_stands 17 = .ok (.getfield 53, 3) := by decide +kernel
theorem dX10_stands_20 : decode cX10_stands 20 = .ok (.iload_n 1, 1) := by decide +kernel
theorem dX10_stands_21 : decode cX10_stands 21 = .ok (.saload, 1) := by decide +kernel
theorem dX10_stands_22 : decode cX10_stands 22 = .ok (.iadd, 1) := by decide +kernel
theorem dX10_stands_23 : decode cX10_stands 23 = .ok (.iconst 1, 1) := by decide +kernel
theorem dX10_stands_24 : decode cX10_stands 24 = .ok (.isub, 1) := by decide +kernel
theorem dX10_stands_25 : decode cX10_stands 25 = .ok (.istore 5, 2) := by decide +kernel
theorem dX10_stands_27 : decode cX10_stands 27 = .ok (.iload_n 1, 1) := by decide +kernel
theorem dX10_stands_28 : decode cX10_stands 28 = .ok (.istore 6, 2) := by decide +kernel
theorem dX10_stands_30 : decode cX10_stands 30 = .ok (.iload 6, 2) := by decide +kernel
theorem dX10_stands_32 : decode cX10_stands 32 = .ok (.ifCond .lt 35, 3) := by decide +kernel
theorem dX10_stands_35 : decode cX10_stands 35 = .ok (.aload_n 0, 1) := by decide +kernel
theorem dX10_stands_36 : decode cX10_stands 36 = .ok (.getfield 47, 3) := by decide +kernel
theorem dX10_stands_39 : decode cX10_stands 39 = .ok (.iload 6, 2) := by decide +kernel
theorem dX10_stands_41 : decode cX10_stands 41 = .ok (.saload, 1) := by decide +kernel
theorem dX10_stands_42 : decode cX10_stands 42 = .ok (.aload_n 0, 1) := by decide +kernel
theorem dX10_stands_43 : decode cX10_stands 43 = .ok (.iload_n 2, 1) := by decide +kernel
theorem dX10_stands_44 : decode cX10_stands 44 = .ok (.iload 5, 2) := by decide +kernel
theorem dX10_stands_46 : decode cX10_stands 46 = .ok (.invokevirtual 274, 3) := by decide +kernel
theorem dX10_stands_49 : decode cX10_stands 49 = .ok (.if_icmp .ne 18, 3) := by decide +kernel
theorem dX10_stands_52 : decode cX10_stands 52 = .ok (.iinc 5 (-1), 3) := by decide +kernel
theorem dX10_stands_55 : decode cX10_stands 55 = .ok (.aload_n 0, 1) := by decide +kernel
theorem dX10_stands_56 : decode cX10_stands 56 = .ok (.getfield 44, 3) := by decide +kernel
theorem dX10_stands_59 : decode cX10_stands 59 = .ok (.iload 6, 2) := by decide +kernel
theorem dX10_stands_61 : decode cX10_stands 61 = .ok (.saload, 1) := by decide +kernel
theorem dX10_stands_62 : decode cX10_stands 62 = .ok (.istore 6, 2) := by decide +kernel
theorem dX10_stands_64 : decode cX10_stands 64 = .ok (.goto (-34), 3) := by decide +kernel
theorem dX10_stands_67 : decode cX10_stands 67 = .ok (.iload 6, 2) := by decide +kernel
theorem dX10_stands_69 : decode cX10_stands 69 = .ok (.ifCond .ge 7, 3) := by decide +kernel
theorem dX10_stands_72 : decode cX10_stands 72 = .ok (.iconst 1, 1) := by decide +kernel
theorem dX10_stands_73 : decode cX10_stands 73 = .ok (.goto 4, 3) := by decide +kernel
theorem dX10_stands_76 : decode cX10_stands 76 = .ok (.iconst 0, 1) := by decide +kernel
theorem dX10_stands_77 : decode cX10_stands 77 = .ok (.ireturn, 1) := by decide +kernel
theorem dX10_sayCodes_0 : decode cX10_sayCodes 0 = .ok (.aload_n 0, 1) := by decide +kernel
theorem dX10_sayCodes_1 : decode cX10_sayCodes 1 = .ok (.aload_n 0, 1) := by decide +kernel
theorem dX10_sayCodes_2 : decode cX10_sayCodes 2 = .ok (.getfield 66, 3) := by decide +kernel
theorem dX10_sayCodes_5 : decode cX10_sayCodes 5 = .ok (.iload_n 2, 1) := by decide +kernel
theorem dX10_sayCodes_6 : decode cX10_sayCodes 6 = .ok (.invokevirtual 189, 3) := by decide +kernel
theorem dX10_sayCodes_9 : decode cX10_sayCodes 9 = .ok (.istore_n 3, 1) := by decide +kernel
theorem dX10_sayCodes_10 : decode cX10_sayCodes 10 = .ok (.aload_n 0, 1) := by decide +kernel
theorem dX10_sayCodes_11 : decode cX10_sayCodes 11 = .ok (.iload_n 1, 1) := by decide +kernel
theorem dX10_sayCodes_12 : decode cX10_sayCodes 12 = .ok (.invokevirtual 196, 3) := by decide +kernel
theorem dX10_sayCodes_15 : decode cX10_sayCodes 15 = .ok (.aload_n 0, 1) := by decide +kernel
theorem dX10_sayCodes_16 : decode cX10_sayCodes 16 = .ok (.iload_n 1, 1) := by decide +kernel
theorem dX10_sayCodes_17 : decode cX10_sayCodes 17 = .ok (.invokevirtual 199, 3) := by decide +kernel
theorem dX10_sayCodes_20 : decode cX10_sayCodes 20 = .ok (.aload_n 0, 1) := by decide +kernel
theorem dX10_sayCodes_21 : decode cX10_sayCodes 21 = .ok (.iconst 0, 1) := by decide +kernel
theorem dX10_sayCodes_22 : decode cX10_sayCodes 22 = .ok (.putfield 265, 3) := by decide +kernel
theorem dX10_sayCodes_25 : decode cX10_sayCodes 25 = .ok (.aload_n 0, 1) := by decide +kernel
theorem dX10_sayCodes_26 : decode cX10_sayCodes 26 = .ok (.iconst 0, 1) := by decide +kernel
theorem dX10_sayCodes_27 : decode cX10_sayCodes 27 = .ok (.putfield 268, 3) := by decide +kernel
theorem dX10_sayCodes_30 : decode cX10_sayCodes 30 = .ok (.aload_n 0, 1) := by decide +kernel
theorem dX10_sayCodes_31 : decode cX10_sayCodes 31 = .ok (.iconst 0, 1) := by decide +kernel
theorem dX10_sayCodes_32 : decode cX10_sayCodes 32 = .ok (.putfield 259, 3) := by decide +kernel
theorem dX10_sayCodes_35 : decode cX10_sayCodes 35 = .ok (.aload_n 0, 1) := by decide +kernel
theorem dX10_sayCodes_36 : decode cX10_sayCodes 36 = .ok (.iconst 1, 1) := by decide +kernel
theorem dX10_sayCodes_37 : decode cX10_sayCodes 37 = .ok (.iload_n 1, 1) := by decide +kernel
theorem dX10_sayCodes_38 : decode cX10_sayCodes 38 = .ok (.ishl, 1) := by decide +kernel
theorem dX10_sayCodes_39 : decode cX10_sayCodes 39 = .ok (.aload_n 0, 1) := by decide +kernel
theorem dX10_sayCodes_40 : decode cX10_sayCodes 40 = .ok (.getfield 177, 3) := by decide +kernel
theorem dX10_sayCodes_43 : decode cX10_sayCodes 43 = .ok (.invokevirtual 277, 3) := by decide +kernel
theorem dX10_sayCodes_46 : decode cX10_sayCodes 46 = .ok (.iconst 0, 1) := by decide +kernel
theorem dX10_sayCodes_47 : decode cX10_sayCodes 47 = .ok (.istore 4, 2) := by decide +kernel
theorem dX10_sayCodes_49 : decode cX10_sayCodes 49 = .ok (.iload 4, 2) := by decide +kernel
theorem dX10_sayCodes_51 : decode cX10_sayCodes 51 = .ok (.iconst 1, 1) := by decide +kernel
theorem dX10_sayCodes_52 : decode cX10_sayCodes 52 = .ok (.iload_n 1, 1) := by decide +kernel
theorem dX10_sayCodes_53 : decode cX10_sayCodes 53 = .ok (.ishl, 1) := by decide +kernel
theorem dX10_sayCodes_54 : decode cX10_sayCodes 54 = .ok (.if_icmp .ge 17, 3) := by decide +kernel
theorem dX10_sayCodes_57 : decode cX10_sayCodes 57 = .ok (.aload_n 0, 1) := by decide +kernel
theorem dX10_sayCodes_58 : decode cX10_sayCodes 58 = .ok (.getfield 59, 3) := by decide +kernel
theorem dX10_sayCodes_61 : decode cX10_sayCodes 61 = .ok (.iload 4, 2) := by decide +kernel
theorem dX10_sayCodes_63 : decode cX10_sayCodes 63 = .ok (.iconst (-1), 1) := by decide +kernel
theorem dX10_sayCodes_64 : decode cX10_sayCodes 64 = .ok (.sastore, 1) := by decide +kernel
theorem dX10_sayCodes_65 : decode cX10_sayCodes 65 = .ok (.iinc 4 1, 3) := by decide +kernel
theorem dX10_sayCodes_68 : decode cX10_sayCodes 68 = .ok (.goto (-19), 3) := by decide +kernel
theorem dX10_sayCodes_71 : decode cX10_sayCodes 71 = .ok (.iconst 0, 1) := by decide +kernel
theorem dX10_sayCodes_72 : decode cX10_sayCodes 72 = .ok (.istore 4, 2) := by decide +kernel
theorem dX10_sayCodes_74 : decode cX10_sayCodes 74 = .ok (.iload 4, 2) := by decide +kernel
theorem dX10_sayCodes_76 : decode cX10_sayCodes 76 = .ok (.iload_n 3, 1) := by decide +kernel
theorem dX10_sayCodes_77 : decode cX10_sayCodes 77 = .ok (.if_icmp .ge 67, 3) := by decide +kernel
theorem dX10_sayCodes_80 : decode cX10_sayCodes 80 = .ok (.aload_n 0, 1) := by decide +kernel
theorem dX10_sayCodes_81 : decode cX10_sayCodes 81 = .ok (.getfield 180, 3) := by decide +kernel
theorem dX10_sayCodes_84 : decode cX10_sayCodes 84 = .ok (.sipush 4096, 3) := by decide +kernel
theorem dX10_sayCodes_87 : decode cX10_sayCodes 87 = .ok (.if_icmp .ne 44, 3) := by decide +kernel
theorem dX10_sayCodes_90 : decode cX10_sayCodes 90 = .ok (.aload_n 0, 1) := by decide +kernel
theorem dX10_sayCodes_91 : decode cX10_sayCodes 91 = .ok (.iconst 1, 1) := by decide +kernel
theorem dX10_sayCodes_92 : decode cX10_sayCodes 92 = .ok (.iload_n 1, 1) := by decide +kernel
theorem dX10_sayCodes_93 : decode cX10_sayCodes 93 = .ok (.ishl, 1) := by decide +kernel
theorem dX10_sayCodes_94 : decode cX10_sayCodes 94 = .ok (.aload_n 0, 1) := by decide +kernel
theorem dX10_sayCodes_95 : decode cX10_sayCodes 95 = .ok (.getfield 177, 3) := by decide +kernel
theorem dX10_sayCodes_98 : decode cX10_sayCodes 98 = .ok (.invokevirtual 277, 3) := by decide +kernel
theorem dX10_sayCodes_101 : decode cX10_sayCodes 101 = .ok (.aload_n 0, 1) := by decide +kernel
theorem dX10_sayCodes_102 : decode cX10_sayCodes 102 = .ok (.iload_n 1, 1) := by decide +kernel
theorem dX10_sayCodes_103 : decode cX10_sayCodes 103 = .ok (.invokevirtual 199, 3) := by decide +kernel
theorem dX10_sayCodes_106 : decode cX10_sayCodes 106 = .ok (.iconst 0, 1) := by decide +kernel
theorem dX10_sayCodes_107 : decode cX10_sayCodes 107 = .ok (.istore 5, 2) := by decide +kernel
theorem dX10_sayCodes_109 : decode cX10_sayCodes 109 = .ok (.iload 5, 2) := by decide +kernel
theorem dX10_sayCodes_111 : decode cX10_sayCodes 111 = .ok (.iconst 1, 1) := by decide +kernel
theorem dX10_sayCodes_112 : decode cX10_sayCodes 112 = .ok (.iload_n 1, 1) := by decide +kernel
theorem dX10_sayCodes_113 : decode cX10_sayCodes 113 = .ok (.ishl, 1) := by decide +kernel
theorem dX10_sayCodes_114 : decode cX10_sayCodes 114 = .ok (.if_icmp .ge 17, 3) := by decide +kernel
theorem dX10_sayCodes_117 : decode cX10_sayCodes 117 = .ok (.aload_n 0, 1) := by decide +kernel
theorem dX10_sayCodes_118 : decode cX10_sayCodes 118 = .ok (.getfield 59, 3) := by decide +kernel
theorem dX10_sayCodes_121 : decode cX10_sayCodes 121 = .ok (.iload 5, 2) := by decide +kernel
theorem dX10_sayCodes_123 : decode cX10_sayCodes 123 = .ok (.iconst (-1), 1) := by decide +kernel
theorem dX10_sayCodes_124 : decode cX10_sayCodes 124 = .ok (.sastore, 1) := by decide +kernel
theorem dX10_sayCodes_125 : decode cX10_sayCodes 125 = .ok (.iinc 5 1, 3) := by decide +kernel
theorem dX10_sayCodes_128 : decode cX10_sayCodes 128 = .ok (.goto (-19), 3) := by decide +kernel
theorem dX10_sayCodes_131 : decode cX10_sayCodes 131 = .ok (.aload_n 0, 1) := by decide +kernel
theorem dX10_sayCodes_132 : decode cX10_sayCodes 132 = .ok (.iload_n 2, 1) := by decide +kernel
theorem dX10_sayCodes_133 : decode cX10_sayCodes 133 = .ok (.iload 4, 2) := by decide +kernel
theorem dX10_sayCodes_135 : decode cX10_sayCodes 135 = .ok (.iload_n 3, 1) := by decide +kernel
theorem dX10_sayCodes_136 : decode cX10_sayCodes 136 = .ok (.invokevirtual 280, 3) := by decide +kernel
theorem dX10_sayCodes_139 : decode cX10_sayCodes 139 = .ok (.istore 4, 2) := by decide +kernel
theorem dX10_sayCodes_141 : decode cX10_sayCodes 141 = .ok (.goto (-67), 3) := by decide +kernel
theorem dX10_sayCodes_144 : decode cX10_sayCodes 144 = .ok (.aload_n 0, 1) := by decide +kernel
theorem dX10_sayCodes_145 : decode cX10_sayCodes 145 = .ok (.iconst 1, 1) := by decide +kernel
theorem dX10_sayCodes_146 : decode cX10_sayCodes 146 = .ok (.iload_n 1, 1) := by decide +kernel
theorem dX10_sayCodes_147 : decode cX10_sayCodes 147 = .ok (.ishl, 1) := by decide +kernel
theorem dX10_sayCodes_148 : decode cX10_sayCodes 148 = .ok (.iconst 1, 1) := by decide +kernel
theorem dX10_sayCodes_149 : decode cX10_sayCodes 149 = .ok (.iadd, 1) := by decide +kernel
theorem dX10_sayCodes_150 : decode cX10_sayCodes 150 = .ok (.aload_n 0, 1) := by decide +kernel
theorem dX10_sayCodes_151 : decode cX10_sayCodes 151 = .ok (.getfield 177, 3) := by decide +kernel
theorem dX10_sayCodes_154 : decode cX10_sayCodes 154 = .ok (.invokevirtual 277, 3) := by decide +kernel
theorem dX10_sayCodes_157 : decode cX10_sayCodes 157 = .ok (.aload_n 0, 1) := by decide +kernel
theorem dX10_sayCodes_158 : decode cX10_sayCodes 158 = .ok (.getfield 268, 3) := by decide +kernel
theorem dX10_sayCodes_161 : decode cX10_sayCodes 161 = .ok (.ifCond .le 15, 3) := by decide +kernel
theorem dX10_sayCodes_164 : decode cX10_sayCodes 164 = .ok (.aload_n 0, 1) := by decide +kernel
theorem dX10_sayCodes_165 : decode cX10_sayCodes 165 = .ok (.iconst 0, 1) := by decide +kernel
theorem dX10_sayCodes_166 : decode cX10_sayCodes 166 = .ok (.bipush 8, 2) := by decide +kernel
theorem dX10_sayCodes_168 : decode cX10_sayCodes 168 = .ok (.aload_n 0, 1) := by decide +kernel
theorem dX10_sayCodes_169 : decode cX10_sayCodes 169 = .ok (.getfield 268, 3) := by decide +kernel
theorem dX10_sayCodes_172 : decode cX10_sayCodes 172 = .ok (.isub, 1) := by decide +kernel
theorem dX10_sayCodes_173 : decode cX10_sayCodes 173 = .ok (.invokevirtual 277, 3) := by decide +kernel
theorem dX10_sayCodes_176 : decode cX10_sayCodes 176 = .ok (.return_, 1) := by decide +kernel
theorem dX10_sayLongest_0 : decode cX10_sayLongest 0 = .ok (.aload_n 0, 1) := by decide +kernel
theorem dX10_sayLongest_1 : decode cX10_sayLongest 1 = .ok (.iload_n 1, 1) := by decide +kernel
theorem dX10_sayLongest_2 : decode cX10_sayLongest 2 = .ok (.iload_n 2, 1) := by decide +kernel
theorem dX10_sayLongest_3 : decode cX10_sayLongest 3 = .ok (.invokevirtual 274, 3) := by decide +kernel
theorem dX10_sayLongest_6 : decode cX10_sayLongest 6 = .ok (.istore 4, 2) := by decide +kernel
theorem dX10_sayLongest_8 : decode cX10_sayLongest 8 = .ok (.iload_n 2, 1) := by decide +kernel
theorem dX10_sayLongest_9 : decode cX10_sayLongest 9 = .ok (.iconst 1, 1) := by decide +kernel
theorem dX10_sayLongest_10 : decode cX10_sayLongest 10 = .ok (.iadd, 1) := by decide +kernel
theorem dX10_sayLongest_11 : decode cX10_sayLongest 11 = .ok (.istore 5, 2) := by decide +kernel
theorem dX10_sayLongest_13 : decode cX10_sayLongest 13 = .ok (.iload 4, 2) := by decide +kernel
theorem dX10_sayLongest_15 : decode cX10_sayLongest 15 = .ok (.istore 6, 2) := by decide +kernel
theorem dX10_sayLongest_17 : decode cX10_sayLongest 17 = .ok (.iload 6, 2) := by decide +kernel
theorem dX10_sayLongest_19 : decode cX10_sayLongest 19 = .ok (.ifCond .lt 67, 3) := by decide +kernel
theorem dX10_sayLongest_22 : decode cX10_sayLongest 22 = .ok (.iload 5, 2) := by decide +kernel
theorem dX10_sayLongest_24 : decode cX10_sayLongest 24 = .ok (.iload_n 3, 1) := by decide +kernel
theorem dX10_sayLongest_25 : decode cX10_sayLongest 25 = .ok (.if_icmp .ge 61, 3) := by decide +kernel
theorem dX10_sayLongest_28 : decode cX10_sayLongest 28 = .ok (.aload_n 0, 1) := by decide +kernel
theorem dX10_sayLongest_29 : decode cX10_sayLongest 29 = .ok (.getfield 59, 3) := by decide +kernel
theorem dX10_sayLongest_32 : decode cX10_sayLongest 32 = .ok (.iload 4, 2) := by decide +kernel
theorem dX10_sayLongest_34 : decode cX10_sayLongest 34 = .ok (.saload, 1) := by decide +kernel
theorem dX10_sayLongest_35 : decode cX10_sayLongest 35 = .ok (.istore 6, 2) := by decide +kernel
theorem dX10_sayLongest_37 : decode cX10_sayLongest 37 = .ok (.iload 6, 2) := by decide +kernel
theorem dX10_sayLongest_39 : decode cX10_sayLongest 39 = .ok (.ifCond .lt 32, 3) := by decide +kernel
theorem dX10_sayLongest_42 : decode cX10_sayLongest 42 = .ok (.aload_n 0, 1) := by decide +kernel
theorem dX10_sayLongest_43 : decode cX10_sayLongest 43 = .ok (.getfield 47, 3) := by decide +kernel
theorem dX10_sayLongest_46 : decode cX10_sayLongest 46 = .ok (.iload 6, 2) := by decide +kernel
theorem dX10_sayLongest_48 : decode cX10_sayLongest 48 = .ok (.saload, 1) := by decide +kernel
theorem dX10_sayLongest_49 : decode cX10_sayLongest 49 = .ok (.aload_n 0, 1) := by decide +kernel
theorem dX10_sayLongest_50 : decode cX10_sayLongest 50 = .ok (.iload_n 1, 1) := by decide +kernel
