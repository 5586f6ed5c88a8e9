theorem d_M_move_0 : decode prog_10_method_28_code 0 = .ok (.dconst 1, 1) := by decide +kernel
theorem d_M_move_1 : decode prog_10_method_28_code 1 = .ok (.dstore_n 3, 1) := by decide +kernel
theorem d_M_move_2 : decode prog_10_method_28_code 2 = .ok (.dconst 1, 1) := by decide +kernel
theorem d_M_move_3 : decode prog_10_method_28_code 3 = .ok (.dstore 5, 2) := by decide +kernel
theorem d_M_move_5 : decode prog_10_method_28_code 5 = .ok (.iconst 0, 1) := by decide +kernel
theorem d_M_move_6 : decode prog_10_method_28_code 6 = .ok (.istore 7, 2) := by decide +kernel
theorem d_M_move_8 : decode prog_10_method_28_code 8 = .ok (.iload 7, 2) := by decide +kernel
theorem d_M_move_10 : decode prog_10_method_28_code 10 = .ok (.aload_n 0, 1) := by decide +kernel
theorem d_M_move_11 : decode prog_10_method_28_code 11 = .ok (.getfield 103, 3) := by decide +kernel
theorem d_M_move_14 : decode prog_10_method_28_code 14 = .ok (.if_icmp .ge 207, 3) := by decide +kernel
theorem d_M_move_17 : decode prog_10_method_28_code 17 = .ok (.aload_n 0, 1) := by decide +kernel
theorem d_M_move_18 : decode prog_10_method_28_code 18 = .ok (.getfield 70, 3) := by decide +kernel
theorem d_M_move_21 : decode prog_10_method_28_code 21 = .ok (.iload 7, 2) := by decide +kernel
theorem d_M_move_23 : decode prog_10_method_28_code 23 = .ok (.aload_n 0, 1) := by decide +kernel
theorem d_M_move_24 : decode prog_10_method_28_code 24 = .ok (.getfield 46, 3) := by decide +kernel
theorem d_M_move_27 : decode prog_10_method_28_code 27 = .ok (.iload 7, 2) := by decide +kernel
theorem d_M_move_29 : decode prog_10_method_28_code 29 = .ok (.daload, 1) := by decide +kernel
theorem d_M_move_30 : decode prog_10_method_28_code 30 = .ok (.dastore, 1) := by decide +kernel
theorem d_M_move_31 : decode prog_10_method_28_code 31 = .ok (.iconst 0, 1) := by decide +kernel
theorem d_M_move_32 : decode prog_10_method_28_code 32 = .ok (.istore 8, 2) := by decide +kernel
theorem d_M_move_34 : decode prog_10_method_28_code 34 = .ok (.iload 8, 2) := by decide +kernel
theorem d_M_move_36 : decode prog_10_method_28_code 36 = .ok (.aload_n 0, 1) := by decide +kernel
theorem d_M_move_37 : decode prog_10_method_28_code 37 = .ok (.getfield 99, 3) := by decide +kernel
theorem d_M_move_40 : decode prog_10_method_28_code 40 = .ok (.if_icmp .ge 45, 3) := by decide +kernel
theorem d_M_move_43 : decode prog_10_method_28_code 43 = .ok (.aload_n 0, 1) := by decide +kernel
theorem d_M_move_44 : decode prog_10_method_28_code 44 = .ok (.getfield 70, 3) := by decide +kernel
theorem d_M_move_47 : decode prog_10_method_28_code 47 = .ok (.iload 7, 2) := by decide +kernel
theorem d_M_move_49 : decode prog_10_method_28_code 49 = .ok (.aload_n 0, 1) := by decide +kernel
theorem d_M_move_50 : decode prog_10_method_28_code 50 = .ok (.getfield 70, 3) := by decide +kernel
theorem d_M_move_53 : decode prog_10_method_28_code 53 = .ok (.iload 7, 2) := by decide +kernel
theorem d_M_move_55 : decode prog_10_method_28_code 55 = .ok (.daload, 1) := by decide +kernel
theorem d_M_move_56 : decode prog_10_method_28_code 56 = .ok (.aload_n 0, 1) := by decide +kernel
theorem d_M_move_57 : decode prog_10_method_28_code 57 = .ok (.getfield 25, 3) := by decide +kernel
theorem d_M_move_60 : decode prog_10_method_28_code 60 = .ok (.bipush 8, 2) := by decide +kernel
theorem d_M_move_62 : decode prog_10_method_28_code 62 = .ok (.iload 8, 2) := by decide +kernel
theorem d_M_move_64 : decode prog_10_method_28_code 64 = .ok (.imul, 1) := by decide +kernel
theorem d_M_move_65 : decode prog_10_method_28_code 65 = .ok (.iload 7, 2) := by decide +kernel
theorem d_M_move_67 : decode prog_10_method_28_code 67 = .ok (.iadd, 1) := by decide +kernel
theorem d_M_move_68 : decode prog_10_method_28_code 68 = .ok (.daload, 1) := by decide +kernel
theorem d_M_move_69 : decode prog_10_method_28_code 69 = .ok (.aload_n 0, 1) := by decide +kernel
theorem d_M_move_70 : decode prog_10_method_28_code 70 = .ok (.getfield 67, 3) := by decide +kernel
theorem d_M_move_73 : decode prog_10_method_28_code 73 = .ok (.iload 8, 2) := by decide +kernel
theorem d_M_move_75 : decode prog_10_method_28_code 75 = .ok (.daload, 1) := by decide +kernel
theorem d_M_move_76 : decode prog_10_method_28_code 76 = .ok (.dmul, 1) := by decide +kernel
theorem d_M_move_77 : decode prog_10_method_28_code 77 = .ok (.dsub, 1) := by decide +kernel
theorem d_M_move_78 : decode prog_10_method_28_code 78 = .ok (.dastore, 1) := by decide +kernel
theorem d_M_move_79 : decode prog_10_method_28_code 79 = .ok (.iinc 8 1, 3) := by decide +kernel
theorem d_M_move_82 : decode prog_10_method_28_code 82 = .ok (.goto (-48), 3) := by decide +kernel
theorem d_M_move_85 : decode prog_10_method_28_code 85 = .ok (.aload_n 0, 1) := by decide +kernel
theorem d_M_move_86 : decode prog_10_method_28_code 86 = .ok (.getfield 73, 3) := by decide +kernel
theorem d_M_move_89 : decode prog_10_method_28_code 89 = .ok (.iload 7, 2) := by decide +kernel
theorem d_M_move_91 : decode prog_10_method_28_code 91 = .ok (.dload_n 1, 1) := by decide +kernel
theorem d_M_move_92 : decode prog_10_method_28_code 92 = .ok (.aload_n 0, 1) := by decide +kernel
theorem d_M_move_93 : decode prog_10_method_28_code 93 = .ok (.getfield 37, 3) := by decide +kernel
theorem d_M_move_96 : decode prog_10_method_28_code 96 = .ok (.iload 7, 2) := by decide +kernel
theorem d_M_move_98 : decode prog_10_method_28_code 98 = .ok (.daload, 1) := by decide +kernel
theorem d_M_move_99 : decode prog_10_method_28_code 99 = .ok (.ddiv, 1) := by decide +kernel
theorem d_M_move_100 : decode prog_10_method_28_code 100 = .ok (.aload_n 0, 1) := by decide +kernel
theorem d_M_move_101 : decode prog_10_method_28_code 101 = .ok (.getfield 34, 3) := by decide +kernel
theorem d_M_move_104 : decode prog_10_method_28_code 104 = .ok (.iload 7, 2) := by decide +kernel
theorem d_M_move_106 : decode prog_10_method_28_code 106 = .ok (.daload, 1) := by decide +kernel
theorem d_M_move_107 : decode prog_10_method_28_code 107 = .ok (.dsub, 1) := by decide +kernel
theorem d_M_move_108 : decode prog_10_method_28_code 108 = .ok (.aload_n 0, 1) := by decide +kernel
theorem d_M_move_109 : decode prog_10_method_28_code 109 = .ok (.getfield 49, 3) := by decide +kernel
theorem d_M_move_112 : decode prog_10_method_28_code 112 = .ok (.iload 7, 2) := by decide +kernel
theorem d_M_move_114 : decode prog_10_method_28_code 114 = .ok (.daload, 1) := by decide +kernel
theorem d_M_move_115 : decode prog_10_method_28_code 115 = .ok (.aload_n 0, 1) := by decide +kernel
theorem d_M_move_116 : decode prog_10_method_28_code 116 = .ok (.getfield 70, 3) := by decide +kernel
theorem d_M_move_119 : decode prog_10_method_28_code 119 = .ok (.iload 7, 2) := by decide +kernel
theorem d_M_move_121 : decode prog_10_method_28_code 121 = .ok (.daload, 1) := by decide +kernel
theorem d_M_move_122 : decode prog_10_method_28_code 122 = .ok (.dmul, 1) := by decide +kernel
theorem d_M_move_123 : decode prog_10_method_28_code 123 = .ok (.dsub, 1) := by decide +kernel
theorem d_M_move_124 : decode prog_10_method_28_code 124 = .ok (.dastore, 1) := by decide +kernel
theorem d_M_move_125 : decode prog_10_method_28_code 125 = .ok (.aload_n 0, 1) := by decide +kernel
theorem d_M_move_126 : decode prog_10_method_28_code 126 = .ok (.getfield 73, 3) := by decide +kernel
theorem d_M_move_129 : decode prog_10_method_28_code 129 = .ok (.iload 7, 2) := by decide +kernel
theorem d_M_move_131 : decode prog_10_method_28_code 131 = .ok (.daload, 1) := by decide +kernel
theorem d_M_move_132 : decode prog_10_method_28_code 132 = .ok (.dconst 0, 1) := by decide +kernel
theorem d_M_move_133 : decode prog_10_method_28_code 133 = .ok (.dcmp .g, 1) := by decide +kernel
theorem d_M_move_134 : decode prog_10_method_28_code 134 = .ok (.ifCond .ge 37, 3) := by decide +kernel
theorem d_M_move_137 : decode prog_10_method_28_code 137 = .ok (.ldc2_w 216, 3) := by decide +kernel
theorem d_M_move_140 : decode prog_10_method_28_code 140 = .ok (.aload_n 0, 1) := by decide +kernel
theorem d_M_move_141 : decode prog_10_method_28_code 141 = .ok (.getfield 34, 3) := by decide +kernel
theorem d_M_move_144 : decode prog_10_method_28_code 144 = .ok (.iload 7, 2) := by decide +kernel
theorem d_M_move_146 : decode prog_10_method_28_code 146 = .ok (.daload, 1) := by decide +kernel
theorem d_M_move_147 : decode prog_10_method_28_code 147 = .ok (.aload_n 0, 1) := by decide +kernel
theorem d_M_move_148 : decode prog_10_method_28_code 148 = .ok (.getfield 73, 3) := by decide +kernel
theorem d_M_move_151 : decode prog_10_method_28_code 151 = .ok (.iload 7, 2) := by decide +kernel
theorem d_M_move_153 : decode prog_10_method_28_code 153 = .ok (.daload, 1) := by decide +kernel
theorem d_M_move_154 : decode prog_10_method_28_code 154 = .ok (.dneg, 1) := by decide +kernel
theorem d_M_move_155 : decode prog_10_method_28_code 155 = .ok (.ddiv, 1) := by decide +kernel
theorem d_M_move_156 : decode prog_10_method_28_code 156 = .ok (.dmul, 1) := by decide +kernel
theorem d_M_move_157 : decode prog_10_method_28_code 157 = .ok (.dstore 8, 2) := by decide +kernel
theorem d_M_move_159 : decode prog_10_method_28_code 159 = .ok (.dload 8, 2) := by decide +kernel
theorem d_M_move_161 : decode prog_10_method_28_code 161 = .ok (.dload 5, 2) := by decide +kernel
theorem d_M_move_163 : decode prog_10_method_28_code 163 = .ok (.dcmp .g, 1) := by decide +kernel
theorem d_M_move_164 : decode prog_10_method_28_code 164 = .ok (.ifCond .ge 7, 3) := by decide +kernel
theorem d_M_move_167 : decode prog_10_method_28_code 167 = .ok (.dload 8, 2) := by decide +kernel
theorem d_M_move_169 : decode prog_10_method_28_code 169 = .ok (.dstore 5, 2) := by decide +kernel
theorem d_M_move_171 : decode prog_10_method_28_code 171 = .ok (.aload_n 0, 1) := by decide +kernel
theorem d_M_move_172 : decode prog_10_method_28_code 172 = .ok (.getfield 70, 3) := by decide +kernel
theorem d_M_move_175 : decode prog_10_method_28_code 175 = .ok (.iload 7, 2) := by decide +kernel
theorem d_M_move_177 : decode prog_10_method_28_code 177 = .ok (.daload, 1) := by decide +kernel
theorem d_M_move_178 : decode prog_10_method_28_code 178 = .ok (.dconst 0, 1) := by decide +kernel
theorem d_M_move_179 : decode prog_10_method_28_code 179 = .ok (.dcmp .g, 1) := by decide +kernel
theorem d_M_move_180 : decode prog_10_method_28_code 180 = .ok (.ifCond .ge 35, 3) := by decide +kernel
theorem d_M_move_183 : decode prog_10_method_28_code 183 = .ok (.ldc2_w 216, 3) := by decide +kernel
theorem d_M_move_186 : decode prog_10_method_28_code 186 = .ok (.aload_n 0, 1) := by decide +kernel
theorem d_M_move_187 : decode prog_10_method_28_code 187 = .ok (.getfield 37, 3) := by decide +kernel
theorem d_M_move_190 : decode prog_10_method_28_code 190 = .ok (.iload 7, 2) := by decide +kernel
theorem d_M_move_192 : decode prog_10_method_28_code 192 = .ok (.daload, 1) := by decide +kernel
theorem d_M_move_193 : decode prog_10_method_28_code 193 = .ok (.aload_n 0, 1) := by decide +kernel
theorem d_M_move_194 : decode prog_10_method_28_code 194 = .ok (.getfield 70, 3) := by decide +kernel
theorem d_M_move_197 : decode prog_10_method_28_code 197 = .ok (.iload 7, 2) := by decide +kernel
theorem d_M_move_199 : decode prog_10_method_28_code 199 = .ok (.daload, 1) := by decide +kernel
theorem d_M_move_200 : decode prog_10_method_28_code 200 = .ok (.dneg, 1) := by decide +kernel
theorem d_M_move_201 : decode prog_10_method_28_code 201 = .ok (.ddiv, 1) := by decide +kernel
theorem d_M_move_202 : decode prog_10_method_28_code 202 = .ok (.dmul, 1) := by decide +kernel
theorem d_M_move_203 : decode prog_10_method_28_code 203 = .ok (.dstore 8, 2) := by decide +kernel
theorem d_M_move_205 : decode prog_10_method_28_code 205 = .ok (.dload 8, 2) := by decide +kernel
theorem d_M_move_207 : decode prog_10_method_28_code 207 = .ok (.dload_n 3, 1) := by decide +kernel
theorem d_M_move_208 : decode prog_10_method_28_code 208 = .ok (.dcmp .g, 1) := by decide +kernel
theorem d_M_move_209 : decode prog_10_method_28_code 209 = .ok (.ifCond .ge 6, 3) := by decide +kernel
theorem d_M_move_212 : decode prog_10_method_28_code 212 = .ok (.dload 8, 2) := by decide +kernel
theorem d_M_move_214 : decode prog_10_method_28_code 214 = .ok (.dstore_n 3, 1) := by decide +kernel
theorem d_M_move_215 : decode prog_10_method_28_code 215 = .ok (.iinc 7 1, 3) := by decide +kernel
theorem d_M_move_218 : decode prog_10_method_28_code 218 = .ok (.goto (-210), 3) := by decide +kernel
theorem d_M_move_221 : decode prog_10_method_28_code 221 = .ok (.iconst 0, 1) := by decide +kernel
theorem d_M_move_222 : decode prog_10_method_28_code 222 = .ok (.istore 7, 2) := by decide +kernel
theorem d_M_move_224 : decode prog_10_method_28_code 224 = .ok (.iload 7, 2) := by decide +kernel
theorem d_M_move_226 : decode prog_10_method_28_code 226 = .ok (.aload_n 0, 1) := by decide +kernel
theorem d_M_move_227 : decode prog_10_method_28_code 227 = .ok (.getfield 103, 3) := by decide +kernel
theorem d_M_move_230 : decode prog_10_method_28_code 230 = .ok (.if_icmp .ge 58, 3) := by decide +kernel
theorem d_M_move_233 : decode prog_10_method_28_code 233 = .ok (.aload_n 0, 1) := by decide +kernel
theorem d_M_move_234 : decode prog_10_method_28_code 234 = .ok (.getfield 34, 3) := by decide +kernel
theorem d_M_move_237 : decode prog_10_method_28_code 237 = .ok (.iload 7, 2) := by decide +kernel
theorem d_M_move_239 : decode prog_10_method_28_code 239 = .ok (.aload_n 0, 1) := by decide +kernel
theorem d_M_move_240 : decode prog_10_method_28_code 240 = .ok (.getfield 34, 3) := by decide +kernel
theorem d_M_move_243 : decode prog_10_method_28_code 243 = .ok (.iload 7, 2) := by decide +kernel
theorem d_M_move_245 : decode prog_10_method_28_code 245 = .ok (.daload, 1) := by decide +kernel
theorem d_M_move_246 : decode prog_10_method_28_code 246 = .ok (.dload 5, 2) := by decide +kernel
theorem d_M_move_248 : decode prog_10_method_28_code 248 = .ok (.aload_n 0, 1) := by decide +kernel
theorem d_M_move_249 : decode prog_10_method_28_code 249 = .ok (.getfield 73, 3) := by decide +kernel
theorem d_M_move_252 : decode prog_10_method_28_code 252 = .ok (.iload 7, 2) := by decide +kernel
theorem d_M_move_254 : decode prog_10_method_28_code 254 = .ok (.daload, 1) := by decide +kernel
theorem d_M_move_255 : decode prog_10_method_28_code 255 = .ok (.dmul, 1) := by decide +kernel
theorem d_M_move_256 : decode prog_10_method_28_code 256 = .ok (.dadd, 1) := by decide +kernel
theorem d_M_move_257 : decode prog_10_method_28_code 257 = .ok (.dastore, 1) := by decide +kernel
theorem d_M_move_258 : decode prog_10_method_28_code 258 = .ok (.aload_n 0, 1) := by decide +kernel
theorem d_M_move_259 : decode prog_10_method_28_code 259 = .ok (.getfield 37, 3) := by decide +kernel
theorem d_M_move_262 : decode prog_10_method_28_code 262 = .ok (.iload 7, 2) := by decide +kernel
theorem d_M_move_264 : decode prog_10_method_28_code 264 = .ok (.aload_n 0, 1) := by decide +kernel
theorem d_M_move_265 : decode prog_10_method_28_code 265 = .ok (.getfield 37, 3) := by decide +kernel
theorem d_M_move_268 : decode prog_10_method_28_code 268 = .ok (.iload 7, 2) := by decide +kernel
theorem d_M_move_270 : decode prog_10_method_28_code 270 = .ok (.daload, 1) := by decide +kernel
theorem d_M_move_271 : decode prog_10_method_28_code 271 = .ok (.dload_n 3, 1) := by decide +kernel
theorem d_M_move_272 : decode prog_10_method_28_code 272 = .ok (.aload_n 0, 1) := by decide +kernel
theorem d_M_move_273 : decode prog_10_method_28_code 273 = .ok (.getfield 70, 3) := by decide +kernel
theorem d_M_move_276 : decode prog_10_method_28_code 276 = .ok (.iload 7, 2) := by decide +kernel
theorem d_M_move_278 : decode prog_10_method_28_code 278 = .ok (.daload, 1) := by decide +kernel
theorem d_M_move_279 : decode prog_10_method_28_code 279 = .ok (.dmul, 1) := by decide +kernel
theorem d_M_move_280 : decode prog_10_method_28_code 280 = .ok (.dadd, 1) := by decide +kernel
theorem d_M_move_281 : decode prog_10_method_28_code 281 = .ok (.dastore, 1) := by decide +kernel
theorem d_M_move_282 : decode prog_10_method_28_code 282 = .ok (.iinc 7 1, 3) := by decide +kernel
theorem d_M_move_285 : decode prog_10_method_28_code 285 = .ok (.goto (-61), 3) := by decide +kernel
theorem d_M_move_288 : decode prog_10_method_28_code 288 = .ok (.iconst 0, 1) := by decide +kernel
theorem d_M_move_289 : decode prog_10_method_28_code 289 = .ok (.istore 7, 2) := by decide +kernel
theorem d_M_move_291 : decode prog_10_method_28_code 291 = .ok (.iload 7, 2) := by decide +kernel
theorem d_M_move_293 : decode prog_10_method_28_code 293 = .ok (.aload_n 0, 1) := by decide +kernel
theorem d_M_move_294 : decode prog_10_method_28_code 294 = .ok (.getfield 99, 3) := by decide +kernel
theorem d_M_move_297 : decode prog_10_method_28_code 297 = .ok (.if_icmp .ge 33, 3) := by decide +kernel
theorem d_M_move_300 : decode prog_10_method_28_code 300 = .ok (.aload_n 0, 1) := by decide +kernel
theorem d_M_move_301 : decode prog_10_method_28_code 301 = .ok (.getfield 40, 3) := by decide +kernel
theorem d_M_move_304 : decode prog_10_method_28_code 304 = .ok (.iload 7, 2) := by decide +kernel
theorem d_M_move_306 : decode prog_10_method_28_code 306 = .ok (.aload_n 0, 1) := by decide +kernel
theorem d_M_move_307 : decode prog_10_method_28_code 307 = .ok (.getfield 40, 3) := by decide +kernel
theorem d_M_move_310 : decode prog_10_method_28_code 310 = .ok (.iload 7, 2) := by decide +kernel
theorem d_M_move_312 : decode prog_10_method_28_code 312 = .ok (.daload, 1) := by decide +kernel
theorem d_M_move_313 : decode prog_10_method_28_code 313 = .ok (.dload_n 3, 1) := by decide +kernel
theorem d_M_move_314 : decode prog_10_method_28_code 314 = .ok (.aload_n 0, 1) := by decide +kernel
theorem d_M_move_315 : decode prog_10_method_28_code 315 = .ok (.getfield 67, 3) := by decide +kernel
theorem d_M_move_318 : decode prog_10_method_28_code 318 = .ok (.iload 7, 2) := by decide +kernel
theorem d_M_move_320 : decode prog_10_method_28_code 320 = .ok (.daload, 1) := by decide +kernel
theorem d_M_move_321 : decode prog_10_method_28_code 321 = .ok (.dmul, 1) := by decide +kernel
theorem d_M_move_322 : decode prog_10_method_28_code 322 = .ok (.dadd, 1) := by decide +kernel
theorem d_M_move_323 : decode prog_10_method_28_code 323 = .ok (.dastore, 1) := by decide +kernel
theorem d_M_move_324 : decode prog_10_method_28_code 324 = .ok (.iinc 7 1, 3) := by decide +kernel
theorem d_M_move_327 : decode prog_10_method_28_code 327 = .ok (.goto (-36), 3) := by decide +kernel
theorem d_M_move_330 : decode prog_10_method_28_code 330 = .ok (.return_, 1) := by decide +kernel
abbrev w_M_move (T : Nat → ClassId) (q0 : Nat) (q0_a : Nat) (q0_b : Nat) (q0_c : Nat) (q0_rowScale : Nat) (q0_columnScale : Nat) (q0_sa : Nat) (q0_sb : Nat) (q0_sc : Nat) (q0_x : Nat) (q0_s : Nat) (q0_y : Nat) (q0_p : Nat) (q0_d : Nat) (q0_h : Nat) (q0_f : Nat) (q0_mm : Nat) (q0_low : Nat) (q0_dd : Nat) (q0_r : Nat) (q0_big : Nat) (q0_dt : Nat) (q0_dx : Nat) (q0_t : Nat) (q0_cost : Nat) (q0_rowScaleNow : Nat) (q0_columnScaleNow : Nat) (q0_basic : Nat) (q0_text : Nat) (q0_turned : Nat) (q0_na : Nat) (q0_nb : Nat) (q0_nc : Nat) (vq0_m : Int32) (vq0_n : Int32) (vq0_length : Int32) (vq0_where : Int32) (vq0_effort : Int32) (vq0_thrown : Int32) (vq0_at : Int32) (vq0_scaled : Int32) (vq0_solved : Int32) (vq0_second : Int32) (vq0_nm : Int32) (vq0_nn : Int32) (vq0_number : UInt64) (vq0_bad : Int32) (vq0_sa : Nat → UInt64) (vq0_x : Nat → UInt64) (vq0_s : Nat → UInt64) (vq0_y : Nat → UInt64) (vq0_d : Nat → UInt64) (vq0_h : Nat → UInt64) (vq0_big : Nat → UInt64) (vq0_dt : Nat → UInt64) (vq0_dx : Nat → UInt64) : va_W := [(q0, .inr (8, [.ref q0_a, .ref q0_b, .ref q0_c, .ref q0_rowScale, .ref q0_columnScale, .ref q0_sa, .ref q0_sb, .ref q0_sc, .ref q0_x, .ref q0_s, .ref q0_y, .ref q0_p, .ref q0_d, .ref q0_h, .ref q0_f, .ref q0_mm, .ref q0_low, .ref q0_dd, .ref q0_r, .ref q0_big, .ref q0_dt, .ref q0_dx, .ref q0_t, .ref q0_cost, .ref q0_rowScaleNow, .ref q0_columnScaleNow, .ref q0_basic, .ref q0_text, .ref q0_turned, .int vq0_m, .int vq0_n, .int vq0_length, .int vq0_where, .int vq0_effort, .int vq0_thrown, .int vq0_at, .int vq0_scaled, .int vq0_solved, .int vq0_second, .ref q0_na, .ref q0_nb, .ref q0_nc, .int vq0_nm, .int vq0_nn, .double vq0_number, .int vq0_bad])), (q0_sa, .inl (T 0, 40, .inr (.inr (.inr (.inl vq0_sa))))), (q0_x, .inl (T 0, 8, .inr (.inr (.inr (.inl vq0_x))))), (q0_s, .inl (T 0, 8, .inr (.inr (.inr (.inl vq0_s))))), (q0_y, .inl (T 0, 5, .inr (.inr (.inr (.inl vq0_y))))), (q0_d, .inl (T 0, 8, .inr (.inr (.inr (.inl vq0_d))))), (q0_h, .inl (T 0, 8, .inr (.inr (.inr (.inl vq0_h))))), (q0_big, .inl (T 0, 5, .inr (.inr (.inr (.inl vq0_big))))), (q0_dt, .inl (T 0, 8, .inr (.inr (.inr (.inl vq0_dt))))), (q0_dx, .inl (T 0, 8, .inr (.inr (.inr (.inl vq0_dx)))))]
def s_M_move_B291 (vq0_m : Int32) (vq0_n : Int32) (vq0_length : Int32) (vq0_where : Int32) (vq0_effort : Int32) (vq0_thrown : Int32) (vq0_at : Int32) (vq0_scaled : Int32) (vq0_solved : Int32) (vq0_second : Int32) (vq0_nm : Int32) (vq0_nn : Int32) (vq0_number : UInt64) (vq0_bad : Int32) (vq0_sa : Nat → UInt64) (vq0_x : Nat → UInt64) (vq0_s : Nat → UInt64) (vq0_d : Nat → UInt64) (vq0_h : Nat → UInt64) (vq0_big : Nat → UInt64) (vq0_dt : Nat → UInt64) (vq0_dx : Nat → UInt64) (x3 : UInt64) (vq0_y : Nat → UInt64) (x7 : Int32) : Option (((Nat → UInt64) × Int32) ⊕ ((Nat → UInt64))) :=
  if vq0_m ≤ x7 then (some (.inr vq0_y)) else (gd (inb x7 5) <| gd (inb x7 5) <| gd (isn (FP.dmul x3 (vq0_big x7.toNatClampNeg))) <| gd (isn (FP.dadd (vq0_y x7.toNatClampNeg) (FP.dmul x3 (vq0_big x7.toNatClampNeg)))) <| gd (inb x7 5) <| some (.inl (vf_upd vq0_y x7.toNatClampNeg (FP.dadd (vq0_y x7.toNatClampNeg) (FP.dmul x3 (vq0_big x7.toNatClampNeg))), x7 + 1)))
def s_M_move_L291 (vq0_m : Int32) (vq0_n : Int32) (vq0_length : Int32) (vq0_where : Int32) (vq0_effort : Int32) (vq0_thrown : Int32) (vq0_at : Int32) (vq0_scaled : Int32) (vq0_solved : Int32) (vq0_second : Int32) (vq0_nm : Int32) (vq0_nn : Int32) (vq0_number : UInt64) (vq0_bad : Int32) (vq0_sa : Nat → UInt64) (vq0_x : Nat → UInt64) (vq0_s : Nat → UInt64) (vq0_y : Nat → UInt64) (vq0_d : Nat → UInt64) (vq0_h : Nat → UInt64) (vq0_big : Nat → UInt64) (vq0_dt : Nat → UInt64) (vq0_dx : Nat → UInt64) (x3 : UInt64) (x7 : Int32) : Option ((Nat → UInt64) × (Nat → UInt64) × (Nat → UInt64) × (Nat → UInt64) × (Nat → UInt64)) :=
  (loopO (fun (st : (Nat → UInt64) × Int32) => s_M_move_B291 vq0_m vq0_n vq0_length vq0_where vq0_effort vq0_thrown vq0_at vq0_scaled vq0_solved vq0_second vq0_nm vq0_nn vq0_number vq0_bad vq0_sa vq0_x vq0_s vq0_d vq0_h vq0_big vq0_dt vq0_dx x3 st.1 st.2) 2000 (vq0_y, x7)).bind fun ul291 => some (vq0_x, vq0_s, ul291, vq0_dt, vq0_dx)
def s_M_move_B224 (vq0_m : Int32) (vq0_n : Int32) (vq0_length : Int32) (vq0_where : Int32) (vq0_effort : Int32) (vq0_thrown : Int32) (vq0_at : Int32) (vq0_scaled : Int32) (vq0_solved : Int32) (vq0_second : Int32) (vq0_nm : Int32) (vq0_nn : Int32) (vq0_number : UInt64) (vq0_bad : Int32) (vq0_sa : Nat → UInt64) (vq0_y : Nat → UInt64) (vq0_d : Nat → UInt64) (vq0_h : Nat → UInt64) (vq0_big : Nat → UInt64) (vq0_dt : Nat → UInt64) (vq0_dx : Nat → UInt64) (x3 : UInt64) (x5 : UInt64) (vq0_x : Nat → UInt64) (vq0_s : Nat → UInt64) (x7 : Int32) : Option (((Nat → UInt64) × (Nat → UInt64) × Int32) ⊕ ((Nat → UInt64) × (Nat → UInt64))) :=
  if vq0_n ≤ x7 then (some (.inr (vq0_x, vq0_s))) else (gd (inb x7 8) <| gd (inb x7 8) <| gd (isn (FP.dmul x5 (vq0_dx x7.toNatClampNeg))) <| gd (isn (FP.dadd (vq0_x x7.toNatClampNeg) (FP.dmul x5 (vq0_dx x7.toNatClampNeg)))) <| gd (inb x7 8) <| gd (inb x7 8) <| gd (inb x7 8) <| gd (isn (FP.dmul x3 (vq0_dt x7.toNatClampNeg))) <| gd (isn (FP.dadd (vq0_s x7.toNatClampNeg) (FP.dmul x3 (vq0_dt x7.toNatClampNeg)))) <| gd (inb x7 8) <| some (.inl (vf_upd vq0_x x7.toNatClampNeg (FP.dadd (vq0_x x7.toNatClampNeg) (FP.dmul x5 (vq0_dx x7.toNatClampNeg))), vf_upd vq0_s x7.toNatClampNeg (FP.dadd (vq0_s x7.toNatClampNeg) (FP.dmul x3 (vq0_dt x7.toNatClampNeg))), x7 + 1)))
def s_M_move_L224 (vq0_m : Int32) (vq0_n : Int32) (vq0_length : Int32) (vq0_where : Int32) (vq0_effort : Int32) (vq0_thrown : Int32) (vq0_at : Int32) (vq0_scaled : Int32) (vq0_solved : Int32) (vq0_second : Int32) (vq0_nm : Int32) (vq0_nn : Int32) (vq0_number : UInt64) (vq0_bad : Int32) (vq0_sa : Nat → UInt64) (vq0_x : Nat → UInt64) (vq0_s : Nat → UInt64) (vq0_y : Nat → UInt64) (vq0_d : Nat → UInt64) (vq0_h : Nat → UInt64) (vq0_big : Nat → UInt64) (vq0_dt : Nat → UInt64) (vq0_dx : Nat → UInt64) (x3 : UInt64) (x5 : UInt64) (x7 : Int32) : Option ((Nat → UInt64) × (Nat → UInt64) × (Nat → UInt64) × (Nat → UInt64) × (Nat → UInt64)) :=
  (loopO (fun (st : (Nat → UInt64) × (Nat → UInt64) × Int32) => s_M_move_B224 vq0_m vq0_n vq0_length vq0_where vq0_effort vq0_thrown vq0_at vq0_scaled vq0_solved vq0_second vq0_nm vq0_nn vq0_number vq0_bad vq0_sa vq0_y vq0_d vq0_h vq0_big vq0_dt vq0_dx x3 x5 st.1 st.2.1 st.2.2) 2000 (vq0_x, vq0_s, x7)).bind fun ul224 => s_M_move_L291 vq0_m vq0_n vq0_length vq0_where vq0_effort vq0_thrown vq0_at vq0_scaled vq0_solved vq0_second vq0_nm vq0_nn vq0_number vq0_bad vq0_sa ul224.1 ul224.2 vq0_y vq0_d vq0_h vq0_big vq0_dt vq0_dx x3 0
def s_M_move_J215 (vq0_m : Int32) (vq0_n : Int32) (vq0_length : Int32) (vq0_where : Int32) (vq0_effort : Int32) (vq0_thrown : Int32) (vq0_at : Int32) (vq0_scaled : Int32) (vq0_solved : Int32) (vq0_second : Int32) (vq0_nm : Int32) (vq0_nn : Int32) (vq0_number : UInt64) (vq0_bad : Int32) (vq0_sa : Nat → UInt64) (vq0_x : Nat → UInt64) (vq0_s : Nat → UInt64) (vq0_y : Nat → UInt64) (vq0_d : Nat → UInt64) (vq0_h : Nat → UInt64) (vq0_big : Nat → UInt64) (vq0_dt : Nat → UInt64) (vq0_dx : Nat → UInt64) (x1 : UInt64) (x3 : UInt64) (x5 : UInt64) (x7 : Int32) : Option (((Nat → UInt64) × (Nat → UInt64) × UInt64 × UInt64 × Int32) ⊕ ((Nat → UInt64) × (Nat → UInt64) × UInt64 × UInt64)) :=
  some (.inl (vq0_dt, vq0_dx, x3, x5, x7 + 1))
def s_M_move_J171 (vq0_m : Int32) (vq0_n : Int32) (vq0_length : Int32) (vq0_where : Int32) (vq0_effort : Int32) (vq0_thrown : Int32) (vq0_at : Int32) (vq0_scaled : Int32) (vq0_solved : Int32) (vq0_second : Int32) (vq0_nm : Int32) (vq0_nn : Int32) (vq0_number : UInt64) (vq0_bad : Int32) (vq0_sa : Nat → UInt64) (vq0_x : Nat → UInt64) (vq0_s : Nat → UInt64) (vq0_y : Nat → UInt64) (vq0_d : Nat → UInt64) (vq0_h : Nat → UInt64) (vq0_big : Nat → UInt64) (vq0_dt : Nat → UInt64) (vq0_dx : Nat → UInt64) (x1 : UInt64) (x3 : UInt64) (x5 : UInt64) (x7 : Int32) : Option (((Nat → UInt64) × (Nat → UInt64) × UInt64 × UInt64 × Int32) ⊕ ((Nat → UInt64) × (Nat → UInt64) × UInt64 × UInt64)) :=
  gd (inb x7 8) <| if 0 ≤ (Op.cmpValue (FP.dcmp (vq0_dt x7.toNatClampNeg) FP.dconst0) .g) then (s_M_move_J215 vq0_m vq0_n vq0_length vq0_where vq0_effort vq0_thrown vq0_at vq0_scaled vq0_solved vq0_second vq0_nm vq0_nn vq0_number vq0_bad vq0_sa vq0_x vq0_s vq0_y vq0_d vq0_h vq0_big vq0_dt vq0_dx x1 x3 x5 x7) else (gd (inb x7 8) <| gd (inb x7 8) <| gd (isn (FP.ddiv (vq0_s x7.toNatClampNeg) (FP.dneg (vq0_dt x7.toNatClampNeg)))) <| gd (isn (FP.dmul 4607137382803743703 (FP.ddiv (vq0_s x7.toNatClampNeg) (FP.dneg (vq0_dt x7.toNatClampNeg))))) <| if 0 ≤ (Op.cmpValue (FP.dcmp (FP.dmul 4607137382803743703 (FP.ddiv (vq0_s x7.toNatClampNeg) (FP.dneg (vq0_dt x7.toNatClampNeg)))) x3) .g) then (s_M_move_J215 vq0_m vq0_n vq0_length vq0_where vq0_effort vq0_thrown vq0_at vq0_scaled vq0_solved vq0_second vq0_nm vq0_nn vq0_number vq0_bad vq0_sa vq0_x vq0_s vq0_y vq0_d vq0_h vq0_big vq0_dt vq0_dx x1 x3 x5 x7) else (s_M_move_J215 vq0_m vq0_n vq0_length vq0_where vq0_effort vq0_thrown vq0_at vq0_scaled vq0_solved vq0_second vq0_nm vq0_nn vq0_number vq0_bad vq0_sa vq0_x vq0_s vq0_y vq0_d vq0_h vq0_big vq0_dt vq0_dx x1 (FP.dmul 4607137382803743703 (FP.ddiv (vq0_s x7.toNatClampNeg) (FP.dneg (vq0_dt x7.toNatClampNeg)))) x5 x7))
def s_M_move_B34 (vq0_m : Int32) (vq0_n : Int32) (vq0_length : Int32) (vq0_where : Int32) (vq0_effort : Int32) (vq0_thrown : Int32) (vq0_at : Int32) (vq0_scaled : Int32) (vq0_solved : Int32) (vq0_second : Int32) (vq0_nm : Int32) (vq0_nn : Int32) (vq0_number : UInt64) (vq0_bad : Int32) (vq0_sa : Nat → UInt64) (vq0_x : Nat → UInt64) (vq0_s : Nat → UInt64) (vq0_y : Nat → UInt64) (vq0_d : Nat → UInt64) (vq0_h : Nat → UInt64) (vq0_big : Nat → UInt64) (vq0_dx : Nat → UInt64) (x1 : UInt64) (x3 : UInt64) (x5 : UInt64) (x7 : Int32) (vq0_dt : Nat → UInt64) (x8 : Int32) : Option (((Nat → UInt64) × Int32) ⊕ ((Nat → UInt64))) :=
  if vq0_m ≤ x8 then (some (.inr vq0_dt)) else (gd (inb x7 8) <| gd (inb ((8 * x8) + x7) 40) <| gd (inb x8 5) <| gd (isn (FP.dmul (vq0_sa ((8 * x8) + x7).toNatClampNeg) (vq0_big x8.toNatClampNeg))) <| gd (isn (FP.dsub (vq0_dt x7.toNatClampNeg) (FP.dmul (vq0_sa ((8 * x8) + x7).toNatClampNeg) (vq0_big x8.toNatClampNeg)))) <| gd (inb x7 8) <| some (.inl (vf_upd vq0_dt x7.toNatClampNeg (FP.dsub (vq0_dt x7.toNatClampNeg) (FP.dmul (vq0_sa ((8 * x8) + x7).toNatClampNeg) (vq0_big x8.toNatClampNeg))), x8 + 1)))
def s_M_move_L34 (vq0_m : Int32) (vq0_n : Int32) (vq0_length : Int32) (vq0_where : Int32) (vq0_effort : Int32) (vq0_thrown : Int32) (vq0_at : Int32) (vq0_scaled : Int32) (vq0_solved : Int32) (vq0_second : Int32) (vq0_nm : Int32) (vq0_nn : Int32) (vq0_number : UInt64) (vq0_bad : Int32) (vq0_sa : Nat → UInt64) (vq0_x : Nat → UInt64) (vq0_s : Nat → UInt64) (vq0_y : Nat → UInt64) (vq0_d : Nat → UInt64) (vq0_h : Nat → UInt64) (vq0_big : Nat → UInt64) (vq0_dt : Nat → UInt64) (vq0_dx : Nat → UInt64) (x1 : UInt64) (x3 : UInt64) (x5 : UInt64) (x7 : Int32) (x8 : Int32) : Option (((Nat → UInt64) × (Nat → UInt64) × UInt64 × UInt64 × Int32) ⊕ ((Nat → UInt64) × (Nat → UInt64) × UInt64 × UInt64)) :=
  (loopO (fun (st : (Nat → UInt64) × Int32) => s_M_move_B34 vq0_m vq0_n vq0_length vq0_where vq0_effort vq0_thrown vq0_at vq0_scaled vq0_solved vq0_second vq0_nm vq0_nn vq0_number vq0_bad vq0_sa vq0_x vq0_s vq0_y vq0_d vq0_h vq0_big vq0_dx x1 x3 x5 x7 st.1 st.2) 2000 (vq0_dt, x8)).bind fun ul34 => gd (inb x7 8) <| gd (isn (FP.ddiv x1 (vq0_s x7.toNatClampNeg))) <| gd (inb x7 8) <| gd (isn (FP.dsub (FP.ddiv x1 (vq0_s x7.toNatClampNeg)) (vq0_x x7.toNatClampNeg))) <| gd (inb x7 8) <| gd (inb x7 8) <| gd (isn (FP.dmul (vq0_h x7.toNatClampNeg) (ul34 x7.toNatClampNeg))) <| gd (isn (FP.dsub (FP.dsub (FP.ddiv x1 (vq0_s x7.toNatClampNeg)) (vq0_x x7.toNatClampNeg)) (FP.dmul (vq0_h x7.toNatClampNeg) (ul34 x7.toNatClampNeg)))) <| gd (inb x7 8) <| gd (inb x7 8) <| if 0 ≤ (Op.cmpValue (FP.dcmp ((vf_upd vq0_dx x7.toNatClampNeg (FP.dsub (FP.dsub (FP.ddiv x1 (vq0_s x7.toNatClampNeg)) (vq0_x x7.toNatClampNeg)) (FP.dmul (vq0_h x7.toNatClampNeg) (ul34 x7.toNatClampNeg)))) x7.toNatClampNeg) FP.dconst0) .g) then (s_M_move_J171 vq0_m vq0_n vq0_length vq0_where vq0_effort vq0_thrown vq0_at vq0_scaled vq0_solved vq0_second vq0_nm vq0_nn vq0_number vq0_bad vq0_sa vq0_x vq0_s vq0_y vq0_d vq0_h vq0_big ul34 (vf_upd vq0_dx x7.toNatClampNeg (FP.dsub (FP.dsub (FP.ddiv x1 (vq0_s x7.toNatClampNeg)) (vq0_x x7.toNatClampNeg)) (FP.dmul (vq0_h x7.toNatClampNeg) (ul34 x7.toNatClampNeg)))) x1 x3 x5 x7) else (gd (inb x7 8) <| gd (inb x7 8) <| gd (isn (FP.ddiv (vq0_x x7.toNatClampNeg) (FP.dneg ((vf_upd vq0_dx x7.toNatClampNeg (FP.dsub (FP.dsub (FP.ddiv x1 (vq0_s x7.toNatClampNeg)) (vq0_x x7.toNatClampNeg)) (FP.dmul (vq0_h x7.toNatClampNeg) (ul34 x7.toNatClampNeg)))) x7.toNatClampNeg)))) <| gd (isn (FP.dmul 4607137382803743703 (FP.ddiv (vq0_x x7.toNatClampNeg) (FP.dneg ((vf_upd vq0_dx x7.toNatClampNeg (FP.dsub (FP.dsub (FP.ddiv x1 (vq0_s x7.toNatClampNeg)) (vq0_x x7.toNatClampNeg)) (FP.dmul (vq0_h x7.toNatClampNeg) (ul34 x7.toNatClampNeg)))) x7.toNatClampNeg))))) <| if 0 ≤ (Op.cmpValue (FP.dcmp (FP.dmul 4607137382803743703 (FP.ddiv (vq0_x x7.toNatClampNeg) (FP.dneg ((vf_upd vq0_dx x7.toNatClampNeg (FP.dsub (FP.dsub (FP.ddiv x1 (vq0_s x7.toNatClampNeg)) (vq0_x x7.toNatClampNeg)) (FP.dmul (vq0_h x7.toNatClampNeg) (ul34 x7.toNatClampNeg)))) x7.toNatClampNeg)))) x5) .g) then (s_M_move_J171 vq0_m vq0_n vq0_length vq0_where vq0_effort vq0_thrown vq0_at vq0_scaled vq0_solved vq0_second vq0_nm vq0_nn vq0_number vq0_bad vq0_sa vq0_x vq0_s vq0_y vq0_d vq0_h vq0_big ul34 (vf_upd vq0_dx x7.toNatClampNeg (FP.dsub (FP.dsub (FP.ddiv x1 (vq0_s x7.toNatClampNeg)) (vq0_x x7.toNatClampNeg)) (FP.dmul (vq0_h x7.toNatClampNeg) (ul34 x7.toNatClampNeg)))) x1 x3 x5 x7) else (s_M_move_J171 vq0_m vq0_n vq0_length vq0_where vq0_effort vq0_thrown vq0_at vq0_scaled vq0_solved vq0_second vq0_nm vq0_nn vq0_number vq0_bad vq0_sa vq0_x vq0_s vq0_y vq0_d vq0_h vq0_big ul34 (vf_upd vq0_dx x7.toNatClampNeg (FP.dsub (FP.dsub (FP.ddiv x1 (vq0_s x7.toNatClampNeg)) (vq0_x x7.toNatClampNeg)) (FP.dmul (vq0_h x7.toNatClampNeg) (ul34 x7.toNatClampNeg)))) x1 x3 (FP.dmul 4607137382803743703 (FP.ddiv (vq0_x x7.toNatClampNeg) (FP.dneg ((vf_upd vq0_dx x7.toNatClampNeg (FP.dsub (FP.dsub (FP.ddiv x1 (vq0_s x7.toNatClampNeg)) (vq0_x x7.toNatClampNeg)) (FP.dmul (vq0_h x7.toNatClampNeg) (ul34 x7.toNatClampNeg)))) x7.toNatClampNeg)))) x7))
def s_M_move_B8 (vq0_m : Int32) (vq0_n : Int32) (vq0_length : Int32) (vq0_where : Int32) (vq0_effort : Int32) (vq0_thrown : Int32) (vq0_at : Int32) (vq0_scaled : Int32) (vq0_solved : Int32) (vq0_second : Int32) (vq0_nm : Int32) (vq0_nn : Int32) (vq0_number : UInt64) (vq0_bad : Int32) (vq0_sa : Nat → UInt64) (vq0_x : Nat → UInt64) (vq0_s : Nat → UInt64) (vq0_y : Nat → UInt64) (vq0_d : Nat → UInt64) (vq0_h : Nat → UInt64) (vq0_big : Nat → UInt64) (x1 : UInt64) (vq0_dt : Nat → UInt64) (vq0_dx : Nat → UInt64) (x3 : UInt64) (x5 : UInt64) (x7 : Int32) : Option (((Nat → UInt64) × (Nat → UInt64) × UInt64 × UInt64 × Int32) ⊕ ((Nat → UInt64) × (Nat → UInt64) × UInt64 × UInt64)) :=
  if vq0_n ≤ x7 then (some (.inr (vq0_dt, vq0_dx, x3, x5))) else (gd (inb x7 8) <| gd (inb x7 8) <| s_M_move_L34 vq0_m vq0_n vq0_length vq0_where vq0_effort vq0_thrown vq0_at vq0_scaled vq0_solved vq0_second vq0_nm vq0_nn vq0_number vq0_bad vq0_sa vq0_x vq0_s vq0_y vq0_d vq0_h vq0_big (vf_upd vq0_dt x7.toNatClampNeg (vq0_d x7.toNatClampNeg)) vq0_dx x1 x3 x5 x7 0)
def s_M_move_L8 (vq0_m : Int32) (vq0_n : Int32) (vq0_length : Int32) (vq0_where : Int32) (vq0_effort : Int32) (vq0_thrown : Int32) (vq0_at : Int32) (vq0_scaled : Int32) (vq0_solved : Int32) (vq0_second : Int32) (vq0_nm : Int32) (vq0_nn : Int32) (vq0_number : UInt64) (vq0_bad : Int32) (vq0_sa : Nat → UInt64) (vq0_x : Nat → UInt64) (vq0_s : Nat → UInt64) (vq0_y : Nat → UInt64) (vq0_d : Nat → UInt64) (vq0_h : Nat → UInt64) (vq0_big : Nat → UInt64) (vq0_dt : Nat → UInt64) (vq0_dx : Nat → UInt64) (x1 : UInt64) (x3 : UInt64) (x5 : UInt64) (x7 : Int32) : Option ((Nat → UInt64) × (Nat → UInt64) × (Nat → UInt64) × (Nat → UInt64) × (Nat → UInt64)) :=
  (loopO (fun (st : (Nat → UInt64) × (Nat → UInt64) × UInt64 × UInt64 × Int32) => s_M_move_B8 vq0_m vq0_n vq0_length vq0_where vq0_effort vq0_thrown vq0_at vq0_scaled vq0_solved vq0_second vq0_nm vq0_nn vq0_number vq0_bad vq0_sa vq0_x vq0_s vq0_y vq0_d vq0_h vq0_big x1 st.1 st.2.1 st.2.2.1 st.2.2.2.1 st.2.2.2.2) 2000 (vq0_dt, vq0_dx, x3, x5, x7)).bind fun ul8 => s_M_move_L224 vq0_m vq0_n vq0_length vq0_where vq0_effort vq0_thrown vq0_at vq0_scaled vq0_solved vq0_second vq0_nm vq0_nn vq0_number vq0_bad vq0_sa vq0_x vq0_s vq0_y vq0_d vq0_h vq0_big ul8.1 ul8.2.1 ul8.2.2.1 ul8.2.2.2 0
def s_M_move (vq0_m : Int32) (vq0_n : Int32) (vq0_length : Int32) (vq0_where : Int32) (vq0_effort : Int32) (vq0_thrown : Int32) (vq0_at : Int32) (vq0_scaled : Int32) (vq0_solved : Int32) (vq0_second : Int32) (vq0_nm : Int32) (vq0_nn : Int32) (vq0_number : UInt64) (vq0_bad : Int32) (vq0_sa : Nat → UInt64) (vq0_x : Nat → UInt64) (vq0_s : Nat → UInt64) (vq0_y : Nat → UInt64) (vq0_d : Nat → UInt64) (vq0_h : Nat → UInt64) (vq0_big : Nat → UInt64) (vq0_dt : Nat → UInt64) (vq0_dx : Nat → UInt64) (x1 : UInt64) : Option ((Nat → UInt64) × (Nat → UInt64) × (Nat → UInt64) × (Nat → UInt64) × (Nat → UInt64)) :=
  s_M_move_L8 vq0_m vq0_n vq0_length vq0_where vq0_effort vq0_thrown vq0_at vq0_scaled vq0_solved vq0_second vq0_nm vq0_nn vq0_number vq0_bad vq0_sa vq0_x vq0_s vq0_y vq0_d vq0_h vq0_big vq0_dt vq0_dx x1 FP.dconst1 FP.dconst1 0
set_option maxHeartbeats 40000000 in
set_option maxRecDepth 100000 in
theorem c_M_move (l : Launch) (D : va_G) (T : Nat → ClassId) (q0 : Nat) (q0_a : Nat) (q0_b : Nat) (q0_c : Nat) (q0_rowScale : Nat) (q0_columnScale : Nat) (q0_sa : Nat) (q0_sb : Nat) (q0_sc : Nat) (q0_x : Nat) (q0_s : Nat) (q0_y : Nat) (q0_p : Nat) (q0_d : Nat) (q0_h : Nat) (q0_f : Nat) (q0_mm : Nat) (q0_low : Nat) (q0_dd : Nat) (q0_r : Nat) (q0_big : Nat) (q0_dt : Nat) (q0_dx : Nat) (q0_t : Nat) (q0_cost : Nat) (q0_rowScaleNow : Nat) (q0_columnScaleNow : Nat) (q0_basic : Nat) (q0_text : Nat) (q0_turned : Nat) (q0_na : Nat) (q0_nb : Nat) (q0_nc : Nat) (vq0_m : Int32) (vq0_n : Int32) (vq0_length : Int32) (vq0_where : Int32) (vq0_effort : Int32) (vq0_thrown : Int32) (vq0_at : Int32) (vq0_scaled : Int32) (vq0_solved : Int32) (vq0_second : Int32) (vq0_nm : Int32) (vq0_nn : Int32) (vq0_number : UInt64) (vq0_bad : Int32) (vq0_sa : Nat → UInt64) (vq0_x : Nat → UInt64) (vq0_s : Nat → UInt64) (vq0_y : Nat → UInt64) (vq0_d : Nat → UInt64) (vq0_h : Nat → UInt64) (vq0_big : Nat → UInt64) (vq0_dt : Nat → UInt64) (vq0_dx : Nat → UInt64) (x1 : UInt64) (rm : (Nat → UInt64) × (Nat → UInt64) × (Nat → UInt64) × (Nat → UInt64) × (Nat → UInt64)) (h : s_M_move vq0_m vq0_n vq0_length vq0_where vq0_effort vq0_thrown vq0_at vq0_scaled vq0_solved vq0_second vq0_nm vq0_nn vq0_number vq0_bad vq0_sa vq0_x vq0_s vq0_y vq0_d vq0_h vq0_big vq0_dt vq0_dx x1 = some rm) : CtV l y_M_move (Cond.code y_M_move prog_10_method_28_code 10 none :: BIG) 0 0 D T [.ref q0, .double x1] (w_M_move T q0 q0_a q0_b q0_c q0_rowScale q0_columnScale q0_sa q0_sb q0_sc q0_x q0_s q0_y q0_p q0_d q0_h q0_f q0_mm q0_low q0_dd q0_r q0_big q0_dt q0_dx q0_t q0_cost q0_rowScaleNow q0_columnScaleNow q0_basic q0_text q0_turned q0_na q0_nb q0_nc vq0_m vq0_n vq0_length vq0_where vq0_effort vq0_thrown vq0_at vq0_scaled vq0_solved vq0_second vq0_nm vq0_nn vq0_number vq0_bad vq0_sa vq0_x vq0_s vq0_y vq0_d vq0_h vq0_big vq0_dt vq0_dx) (fun r => (w_M_move T q0 q0_a q0_b q0_c q0_rowScale q0_columnScale q0_sa q0_sb q0_sc q0_x q0_s q0_y q0_p q0_d q0_h q0_f q0_mm q0_low q0_dd q0_r q0_big q0_dt q0_dx q0_t q0_cost q0_rowScaleNow q0_columnScaleNow q0_basic q0_text q0_turned q0_na q0_nb q0_nc vq0_m vq0_n vq0_length vq0_where vq0_effort vq0_thrown vq0_at vq0_scaled vq0_solved vq0_second vq0_nm vq0_nn vq0_number vq0_bad vq0_sa r.1 r.2.1 r.2.2.1 vq0_d vq0_h vq0_big r.2.2.2.1 r.2.2.2.2)) rm := by
  refine cf_entry (y := y_M_move) (cc := prog_10_method_28_code) (nL := 10) (ret := none) (fr := 0) (lo := 0) (T := T) (av := [.ref q0, .double x1]) (w := (w_M_move T q0 q0_a q0_b q0_c q0_rowScale q0_columnScale q0_sa q0_sb q0_sc q0_x q0_s q0_y q0_p q0_d q0_h q0_f q0_mm q0_low q0_dd q0_r q0_big q0_dt q0_dx q0_t q0_cost q0_rowScaleNow q0_columnScaleNow q0_basic q0_text q0_turned q0_na q0_nb q0_nc vq0_m vq0_n vq0_length vq0_where vq0_effort vq0_thrown vq0_at vq0_scaled vq0_solved vq0_second vq0_nm vq0_nn vq0_number vq0_bad vq0_sa vq0_x vq0_s vq0_y vq0_d vq0_h vq0_big vq0_dt vq0_dx)) (Qc := cfQv D (fun r => (w_M_move T q0 q0_a q0_b q0_c q0_rowScale q0_columnScale q0_sa q0_sb q0_sc q0_x q0_s q0_y q0_p q0_d q0_h q0_f q0_mm q0_low q0_dd q0_r q0_big q0_dt q0_dx q0_t q0_cost q0_rowScaleNow q0_columnScaleNow q0_basic q0_text q0_turned q0_na q0_nb q0_nc vq0_m vq0_n vq0_length vq0_where vq0_effort vq0_thrown vq0_at vq0_scaled vq0_solved vq0_second vq0_nm vq0_nn vq0_number vq0_bad vq0_sa r.1 r.2.1 r.2.2.1 vq0_d vq0_h vq0_big r.2.2.2.1 r.2.2.2.2)) rm) (by decide) rfl (Nat.le_of_ble_eq_true rfl) ?_
  intro p e s m args below meth c A Q H locs ls hx hb hr hlocks hml hown hts hNW hK hA hQ hP hD hS hl
  have hown : s.vm.findClass "ConeForgeModel" = some m.cls := hown
  have hl : lv_has ls 10 [(0, .ref q0), (1, .double x1)] := hl
  have L291 : ∀ (vq0_x : Nat → UInt64) (vq0_s : Nat → UInt64) (vq0_y : Nat → UInt64) (vq0_dt : Nat → UInt64) (vq0_dx : Nat → UInt64) (x3 : UInt64) (x7 : Int32), ∀ (H : Heap) (locs : List Loc) (ls : Array Slot), va_P D CL (w_M_move T q0 q0_a q0_b q0_c q0_rowScale q0_columnScale q0_sa q0_sb q0_sc q0_x q0_s q0_y q0_p q0_d q0_h q0_f q0_mm q0_low q0_dd q0_r q0_big q0_dt q0_dx q0_t q0_cost q0_rowScaleNow q0_columnScaleNow q0_basic q0_text q0_turned q0_na q0_nb q0_nc vq0_m vq0_n vq0_length vq0_where vq0_effort vq0_thrown vq0_at vq0_scaled vq0_solved vq0_second vq0_nm vq0_nn vq0_number vq0_bad vq0_sa vq0_x vq0_s vq0_y vq0_d vq0_h vq0_big vq0_dt vq0_dx) H → va_D A (w_M_move T q0 q0_a q0_b q0_c q0_rowScale q0_columnScale q0_sa q0_sb q0_sc q0_x q0_s q0_y q0_p q0_d q0_h q0_f q0_mm q0_low q0_dd q0_r q0_big q0_dt q0_dx q0_t q0_cost q0_rowScaleNow q0_columnScaleNow q0_basic q0_text q0_turned q0_na q0_nb q0_nc vq0_m vq0_n vq0_length vq0_where vq0_effort vq0_thrown vq0_at vq0_scaled vq0_solved vq0_second vq0_nm vq0_nn vq0_number vq0_bad vq0_sa vq0_x vq0_s vq0_y vq0_d vq0_h vq0_big vq0_dt vq0_dx) → va_S A s.heap H locs → lv_has ls 10 [(0, .ref q0), (3, .double x3), (7, .int x7)] → s_M_move_L291 vq0_m vq0_n vq0_length vq0_where vq0_effort vq0_thrown vq0_at vq0_scaled vq0_solved vq0_second vq0_nm vq0_nn vq0_number vq0_bad vq0_sa vq0_x vq0_s vq0_y vq0_d vq0_h vq0_big vq0_dt vq0_dx x3 x7 = some rm → W p l e (rmk 0 0) s m args below meth c H locs 0 0 Q (F0 m 291 ls []) := by
    intro vq0_x vq0_s vq0_y vq0_dt vq0_dx x3 x7 H locs ls hP hD hS hl h
    unfold s_M_move_L291 at h
    obtain ⟨ul291, hul291, h⟩ := bi_some h
    refine loopO_W (Wh := fun (st : (Nat → UInt64) × Int32) => ∀ (H : Heap) (locs : List Loc) (ls : Array Slot), va_P D CL (w_M_move T q0 q0_a q0_b q0_c q0_rowScale q0_columnScale q0_sa q0_sb q0_sc q0_x q0_s q0_y q0_p q0_d q0_h q0_f q0_mm q0_low q0_dd q0_r q0_big q0_dt q0_dx q0_t q0_cost q0_rowScaleNow q0_columnScaleNow q0_basic q0_text q0_turned q0_na q0_nb q0_nc vq0_m vq0_n vq0_length vq0_where vq0_effort vq0_thrown vq0_at vq0_scaled vq0_solved vq0_second vq0_nm vq0_nn vq0_number vq0_bad vq0_sa vq0_x vq0_s st.1 vq0_d vq0_h vq0_big vq0_dt vq0_dx) H → va_D A (w_M_move T q0 q0_a q0_b q0_c q0_rowScale q0_columnScale q0_sa q0_sb q0_sc q0_x q0_s q0_y q0_p q0_d q0_h q0_f q0_mm q0_low q0_dd q0_r q0_big q0_dt q0_dx q0_t q0_cost q0_rowScaleNow q0_columnScaleNow q0_basic q0_text q0_turned q0_na q0_nb q0_nc vq0_m vq0_n vq0_length vq0_where vq0_effort vq0_thrown vq0_at vq0_scaled vq0_solved vq0_second vq0_nm vq0_nn vq0_number vq0_bad vq0_sa vq0_x vq0_s st.1 vq0_d vq0_h vq0_big vq0_dt vq0_dx) → va_S A s.heap H locs → lv_has ls 10 [(0, .ref q0), (3, .double x3), (7, .int st.2)] → W p l e (rmk 0 0) s m args below meth c H locs 0 0 Q (F0 m 291 ls [])) (Wx := fun (e1 : (Nat → UInt64)) => ∀ (H : Heap) (locs : List Loc) (ls : Array Slot), va_P D CL (w_M_move T q0 q0_a q0_b q0_c q0_rowScale q0_columnScale q0_sa q0_sb q0_sc q0_x q0_s q0_y q0_p q0_d q0_h q0_f q0_mm q0_low q0_dd q0_r q0_big q0_dt q0_dx q0_t q0_cost q0_rowScaleNow q0_columnScaleNow q0_basic q0_text q0_turned q0_na q0_nb q0_nc vq0_m vq0_n vq0_length vq0_where vq0_effort vq0_thrown vq0_at vq0_scaled vq0_solved vq0_second vq0_nm vq0_nn vq0_number vq0_bad vq0_sa vq0_x vq0_s e1 vq0_d vq0_h vq0_big vq0_dt vq0_dx) H → va_D A (w_M_move T q0 q0_a q0_b q0_c q0_rowScale q0_columnScale q0_sa q0_sb q0_sc q0_x q0_s q0_y q0_p q0_d q0_h q0_f q0_mm q0_low q0_dd q0_r q0_big q0_dt q0_dx q0_t q0_cost q0_rowScaleNow q0_columnScaleNow q0_basic q0_text q0_turned q0_na q0_nb q0_nc vq0_m vq0_n vq0_length vq0_where vq0_effort vq0_thrown vq0_at vq0_scaled vq0_solved vq0_second vq0_nm vq0_nn vq0_number vq0_bad vq0_sa vq0_x vq0_s e1 vq0_d vq0_h vq0_big vq0_dt vq0_dx) → va_S A s.heap H locs → lv_has ls 10 [] → W p l e (rmk 0 0) s m args below meth c H locs 0 0 Q (F0 m 330 ls [])) ?_ 2000 _ ul291 hul291 ?_ H locs ls hP hD hS hl
    · intro st rb291 h kc291 kx291 H locs ls hP hD hS hl
      obtain ⟨vq0_y, x7⟩ := st
      have h : s_M_move_B291 vq0_m vq0_n vq0_length vq0_where vq0_effort vq0_thrown vq0_at vq0_scaled vq0_solved vq0_second vq0_nm vq0_nn vq0_number vq0_bad vq0_sa vq0_x vq0_s vq0_d vq0_h vq0_big vq0_dt vq0_dx x3 vq0_y x7 = some rb291 := h
      unfold s_M_move_B291 at h
      refine lv_iload hx hb d_M_move_291 (lv_at hl 2 rfl) ?_
      refine lv_aload_n hx hb d_M_move_293 rfl (lv_at hl 0 rfl) ?_
      refine va_get (D := D) (ci := 8) (v := .int vq0_m) (C := "ConeForgeModel") (T := FM) (N := 46) hx hb hts iM hown hK hP 0 rfl rfl 29 (by decide) (hts _ (bgc bw713)) (fun _ h9 => h9) rfl d_M_move_294 ?_
      refine lv_icmp_ge (tgt := 330) hx hb d_M_move_297 (by decide) (fun c1 => ?_) (fun c1 => ?_)
      · have h := it_t c1 h
        exact kx291 _ (Option.some.inj h).symm H locs ls hP hD hS (lv_sub hl [] rfl)
      · have h := it_f c1 h
        refine lv_aload_n hx hb d_M_move_300 rfl (lv_at hl 0 rfl) ?_
        refine va_get (D := D) (ci := 8) (v := .ref q0_y) (C := "ConeForgeModel") (T := FM) (N := 46) hx hb hts iM hown hK hP 0 rfl rfl 10 (by decide) (hts _ (bgc bw694)) (fun _ h9 => h9) rfl d_M_move_301 ?_
        refine lv_iload hx hb d_M_move_304 (lv_at hl 2 rfl) ?_
        refine lv_aload_n hx hb d_M_move_306 rfl (lv_at hl 0 rfl) ?_
        refine va_get (D := D) (ci := 8) (v := .ref q0_y) (C := "ConeForgeModel") (T := FM) (N := 46) hx hb hts iM hown hK hP 0 rfl rfl 10 (by decide) (hts _ (bgc bw694)) (fun _ h9 => h9) rfl d_M_move_307 ?_
        refine lv_iload hx hb d_M_move_310 (lv_at hl 2 rfl) ?_
        obtain ⟨g2, h⟩ := gd_some h
        refine va_dald hx hb hK hP 4 0 rfl rfl (inb_in g2) d_M_move_312 ?_
        refine lv_dload_n hx hb d_M_move_313 rfl (lv_at hl 1 rfl) ?_
        refine lv_aload_n hx hb d_M_move_314 rfl (lv_at hl 0 rfl) ?_
        refine va_get (D := D) (ci := 8) (v := .ref q0_big) (C := "ConeForgeModel") (T := FM) (N := 46) hx hb hts iM hown hK hP 0 rfl rfl 19 (by decide) (hts _ (bgc bw703)) (fun _ h9 => h9) rfl d_M_move_315 ?_
        refine lv_iload hx hb d_M_move_318 (lv_at hl 2 rfl) ?_
        obtain ⟨g3, h⟩ := gd_some h
        refine va_dald hx hb hK hP 7 0 rfl rfl (inb_in g3) d_M_move_320 ?_
        obtain ⟨g4, h⟩ := gd_some h
        refine lv_dmul hx hb d_M_move_321 (isn_n g4) ?_
        obtain ⟨g5, h⟩ := gd_some h
        refine lv_dadd hx hb d_M_move_322 (isn_n g5) ?_
        obtain ⟨g6, h⟩ := gd_some h
        refine va_dast hx hb hK hP hD hS 4 0 rfl rfl (inb_in g6) d_M_move_323 (fun H locs hP hD hS => ?_)
        have hP : va_P D CL (w_M_move T q0 q0_a q0_b q0_c q0_rowScale q0_columnScale q0_sa q0_sb q0_sc q0_x q0_s q0_y q0_p q0_d q0_h q0_f q0_mm q0_low q0_dd q0_r q0_big q0_dt q0_dx q0_t q0_cost q0_rowScaleNow q0_columnScaleNow q0_basic q0_text q0_turned q0_na q0_nb q0_nc vq0_m vq0_n vq0_length vq0_where vq0_effort vq0_thrown vq0_at vq0_scaled vq0_solved vq0_second vq0_nm vq0_nn vq0_number vq0_bad vq0_sa vq0_x vq0_s (vf_upd vq0_y x7.toNatClampNeg (FP.dadd (vq0_y x7.toNatClampNeg) (FP.dmul x3 (vq0_big x7.toNatClampNeg)))) vq0_d vq0_h vq0_big vq0_dt vq0_dx) H := hP
        have hD : va_D A (w_M_move T q0 q0_a q0_b q0_c q0_rowScale q0_columnScale q0_sa q0_sb q0_sc q0_x q0_s q0_y q0_p q0_d q0_h q0_f q0_mm q0_low q0_dd q0_r q0_big q0_dt q0_dx q0_t q0_cost q0_rowScaleNow q0_columnScaleNow q0_basic q0_text q0_turned q0_na q0_nb q0_nc vq0_m vq0_n vq0_length vq0_where vq0_effort vq0_thrown vq0_at vq0_scaled vq0_solved vq0_second vq0_nm vq0_nn vq0_number vq0_bad vq0_sa vq0_x vq0_s (vf_upd vq0_y x7.toNatClampNeg (FP.dadd (vq0_y x7.toNatClampNeg) (FP.dmul x3 (vq0_big x7.toNatClampNeg)))) vq0_d vq0_h vq0_big vq0_dt vq0_dx) := hD
        refine lv_iinc (v := x7 + 1) (lv' := [(7, .int (x7 + 1)), (0, .ref q0), (3, .double x3)]) hx hb d_M_move_324 hl (k := 2) rfl rfl (by decide) rfl (fun ls hl => ?_)
        refine lv_goto (tgt := 291) hx hb d_M_move_327 (by decide) ?_
        exact kc291 _ (Option.some.inj h).symm H locs ls hP hD hS (lv_sub hl [1, 2, 0] rfl)
    · intro H locs ls hP hD hS hl
      exact rtV hx hb hr hlocks hQ (Option.some.inj h) hP hS d_M_move_330 rfl
  have L224 : ∀ (vq0_x : Nat → UInt64) (vq0_s : Nat → UInt64) (vq0_y : Nat → UInt64) (vq0_dt : Nat → UInt64) (vq0_dx : Nat → UInt64) (x3 : UInt64) (x5 : UInt64) (x7 : Int32), ∀ (H : Heap) (locs : List Loc) (ls : Array Slot), va_P D CL (w_M_move T q0 q0_a q0_b q0_c q0_rowScale q0_columnScale q0_sa q0_sb q0_sc q0_x q0_s q0_y q0_p q0_d q0_h q0_f q0_mm q0_low q0_dd q0_r q0_big q0_dt q0_dx q0_t q0_cost q0_rowScaleNow q0_columnScaleNow q0_basic q0_text q0_turned q0_na q0_nb q0_nc vq0_m vq0_n vq0_length vq0_where vq0_effort vq0_thrown vq0_at vq0_scaled vq0_solved vq0_second vq0_nm vq0_nn vq0_number vq0_bad vq0_sa vq0_x vq0_s vq0_y vq0_d vq0_h vq0_big vq0_dt vq0_dx) H → va_D A (w_M_move T q0 q0_a q0_b q0_c q0_rowScale q0_columnScale q0_sa q0_sb q0_sc q0_x q0_s q0_y q0_p q0_d q0_h q0_f q0_mm q0_low q0_dd q0_r q0_big q0_dt q0_dx q0_t q0_cost q0_rowScaleNow q0_columnScaleNow q0_basic q0_text q0_turned q0_na q0_nb q0_nc vq0_m vq0_n vq0_length vq0_where vq0_effort vq0_thrown vq0_at vq0_scaled vq0_solved vq0_second vq0_nm vq0_nn vq0_number vq0_bad vq0_sa vq0_x vq0_s vq0_y vq0_d vq0_h vq0_big vq0_dt vq0_dx) → va_S A s.heap H locs → lv_has ls 10 [(0, .ref q0), (3, .double x3), (5, .double x5), (7, .int x7)] → s_M_move_L224 vq0_m vq0_n vq0_length vq0_where vq0_effort vq0_thrown vq0_at vq0_scaled vq0_solved vq0_second vq0_nm vq0_nn vq0_number vq0_bad vq0_sa vq0_x vq0_s vq0_y vq0_d vq0_h vq0_big vq0_dt vq0_dx x3 x5 x7 = some rm → W p l e (rmk 0 0) s m args below meth c H locs 0 0 Q (F0 m 224 ls []) := by
    intro vq0_x vq0_s vq0_y vq0_dt vq0_dx x3 x5 x7 H locs ls hP hD hS hl h
    unfold s_M_move_L224 at h
    obtain ⟨ul224, hul224, h⟩ := bi_some h
    refine loopO_W (Wh := fun (st : (Nat → UInt64) × (Nat → UInt64) × Int32) => ∀ (H : Heap) (locs : List Loc) (ls : Array Slot), va_P D CL (w_M_move T q0 q0_a q0_b q0_c q0_rowScale q0_columnScale q0_sa q0_sb q0_sc q0_x q0_s q0_y q0_p q0_d q0_h q0_f q0_mm q0_low q0_dd q0_r q0_big q0_dt q0_dx q0_t q0_cost q0_rowScaleNow q0_columnScaleNow q0_basic q0_text q0_turned q0_na q0_nb q0_nc vq0_m vq0_n vq0_length vq0_where vq0_effort vq0_thrown vq0_at vq0_scaled vq0_solved vq0_second vq0_nm vq0_nn vq0_number vq0_bad vq0_sa st.1 st.2.1 vq0_y vq0_d vq0_h vq0_big vq0_dt vq0_dx) H → va_D A (w_M_move T q0 q0_a q0_b q0_c q0_rowScale q0_columnScale q0_sa q0_sb q0_sc q0_x q0_s q0_y q0_p q0_d q0_h q0_f q0_mm q0_low q0_dd q0_r q0_big q0_dt q0_dx q0_t q0_cost q0_rowScaleNow q0_columnScaleNow q0_basic q0_text q0_turned q0_na q0_nb q0_nc vq0_m vq0_n vq0_length vq0_where vq0_effort vq0_thrown vq0_at vq0_scaled vq0_solved vq0_second vq0_nm vq0_nn vq0_number vq0_bad vq0_sa st.1 st.2.1 vq0_y vq0_d vq0_h vq0_big vq0_dt vq0_dx) → va_S A s.heap H locs → lv_has ls 10 [(0, .ref q0), (3, .double x3), (5, .double x5), (7, .int st.2.2)] → W p l e (rmk 0 0) s m args below meth c H locs 0 0 Q (F0 m 224 ls [])) (Wx := fun (e1 : (Nat → UInt64) × (Nat → UInt64)) => ∀ (H : Heap) (locs : List Loc) (ls : Array Slot), va_P D CL (w_M_move T q0 q0_a q0_b q0_c q0_rowScale q0_columnScale q0_sa q0_sb q0_sc q0_x q0_s q0_y q0_p q0_d q0_h q0_f q0_mm q0_low q0_dd q0_r q0_big q0_dt q0_dx q0_t q0_cost q0_rowScaleNow q0_columnScaleNow q0_basic q0_text q0_turned q0_na q0_nb q0_nc vq0_m vq0_n vq0_length vq0_where vq0_effort vq0_thrown vq0_at vq0_scaled vq0_solved vq0_second vq0_nm vq0_nn vq0_number vq0_bad vq0_sa e1.1 e1.2 vq0_y vq0_d vq0_h vq0_big vq0_dt vq0_dx) H → va_D A (w_M_move T q0 q0_a q0_b q0_c q0_rowScale q0_columnScale q0_sa q0_sb q0_sc q0_x q0_s q0_y q0_p q0_d q0_h q0_f q0_mm q0_low q0_dd q0_r q0_big q0_dt q0_dx q0_t q0_cost q0_rowScaleNow q0_columnScaleNow q0_basic q0_text q0_turned q0_na q0_nb q0_nc vq0_m vq0_n vq0_length vq0_where vq0_effort vq0_thrown vq0_at vq0_scaled vq0_solved vq0_second vq0_nm vq0_nn vq0_number vq0_bad vq0_sa e1.1 e1.2 vq0_y vq0_d vq0_h vq0_big vq0_dt vq0_dx) → va_S A s.heap H locs → lv_has ls 10 [(0, .ref q0), (3, .double x3)] → W p l e (rmk 0 0) s m args below meth c H locs 0 0 Q (F0 m 288 ls [])) ?_ 2000 _ ul224 hul224 ?_ H locs ls hP hD hS hl
    · intro st rb224 h kc224 kx224 H locs ls hP hD hS hl
      obtain ⟨vq0_x, vq0_s, x7⟩ := st
      have h : s_M_move_B224 vq0_m vq0_n vq0_length vq0_where vq0_effort vq0_thrown vq0_at vq0_scaled vq0_solved vq0_second vq0_nm vq0_nn vq0_number vq0_bad vq0_sa vq0_y vq0_d vq0_h vq0_big vq0_dt vq0_dx x3 x5 vq0_x vq0_s x7 = some rb224 := h
      unfold s_M_move_B224 at h
      refine lv_iload hx hb d_M_move_224 (lv_at hl 3 rfl) ?_
      refine lv_aload_n hx hb d_M_move_226 rfl (lv_at hl 0 rfl) ?_
      refine va_get (D := D) (ci := 8) (v := .int vq0_n) (C := "ConeForgeModel") (T := FM) (N := 46) hx hb hts iM hown hK hP 0 rfl rfl 30 (by decide) (hts _ (bgc bw714)) (fun _ h9 => h9) rfl d_M_move_227 ?_
      refine lv_icmp_ge (tgt := 288) hx hb d_M_move_230 (by decide) (fun c7 => ?_) (fun c7 => ?_)
      · have h := it_t c7 h
        exact kx224 _ (Option.some.inj h).symm H locs ls hP hD hS (lv_sub hl [0, 1] rfl)
      · have h := it_f c7 h
        refine lv_aload_n hx hb d_M_move_233 rfl (lv_at hl 0 rfl) ?_
        refine va_get (D := D) (ci := 8) (v := .ref q0_x) (C := "ConeForgeModel") (T := FM) (N := 46) hx hb hts iM hown hK hP 0 rfl rfl 8 (by decide) (hts _ (bgc bw692)) (fun _ h9 => h9) rfl d_M_move_234 ?_
        refine lv_iload hx hb d_M_move_237 (lv_at hl 3 rfl) ?_
        refine lv_aload_n hx hb d_M_move_239 rfl (lv_at hl 0 rfl) ?_
        refine va_get (D := D) (ci := 8) (v := .ref q0_x) (C := "ConeForgeModel") (T := FM) (N := 46) hx hb hts iM hown hK hP 0 rfl rfl 8 (by decide) (hts _ (bgc bw692)) (fun _ h9 => h9) rfl d_M_move_240 ?_
        refine lv_iload hx hb d_M_move_243 (lv_at hl 3 rfl) ?_
        obtain ⟨g8, h⟩ := gd_some h
        refine va_dald hx hb hK hP 2 0 rfl rfl (inb_in g8) d_M_move_245 ?_
        refine lv_dload hx hb d_M_move_246 (lv_at hl 2 rfl) ?_
        refine lv_aload_n hx hb d_M_move_248 rfl (lv_at hl 0 rfl) ?_
        refine va_get (D := D) (ci := 8) (v := .ref q0_dx) (C := "ConeForgeModel") (T := FM) (N := 46) hx hb hts iM hown hK hP 0 rfl rfl 21 (by decide) (hts _ (bgc bw705)) (fun _ h9 => h9) rfl d_M_move_249 ?_
        refine lv_iload hx hb d_M_move_252 (lv_at hl 3 rfl) ?_
        obtain ⟨g9, h⟩ := gd_some h
        refine va_dald hx hb hK hP 9 0 rfl rfl (inb_in g9) d_M_move_254 ?_
        obtain ⟨g10, h⟩ := gd_some h
        refine lv_dmul hx hb d_M_move_255 (isn_n g10) ?_
        obtain ⟨g11, h⟩ := gd_some h
        refine lv_dadd hx hb d_M_move_256 (isn_n g11) ?_
        obtain ⟨g12, h⟩ := gd_some h
        refine va_dast hx hb hK hP hD hS 2 0 rfl rfl (inb_in g12) d_M_move_257 (fun H locs hP hD hS => ?_)
        have hP : va_P D CL (w_M_move T q0 q0_a q0_b q0_c q0_rowScale q0_columnScale q0_sa q0_sb q0_sc q0_x q0_s q0_y q0_p q0_d q0_h q0_f q0_mm q0_low q0_dd q0_r q0_big q0_dt q0_dx q0_t q0_cost q0_rowScaleNow q0_columnScaleNow q0_basic q0_text q0_turned q0_na q0_nb q0_nc vq0_m vq0_n vq0_length vq0_where vq0_effort vq0_thrown vq0_at vq0_scaled vq0_solved vq0_second vq0_nm vq0_nn vq0_number vq0_bad vq0_sa (vf_upd vq0_x x7.toNatClampNeg (FP.dadd (vq0_x x7.toNatClampNeg) (FP.dmul x5 (vq0_dx x7.toNatClampNeg)))) vq0_s vq0_y vq0_d vq0_h vq0_big vq0_dt vq0_dx) H := hP
        have hD : va_D A (w_M_move T q0 q0_a q0_b q0_c q0_rowScale q0_columnScale q0_sa q0_sb q0_sc q0_x q0_s q0_y q0_p q0_d q0_h q0_f q0_mm q0_low q0_dd q0_r q0_big q0_dt q0_dx q0_t q0_cost q0_rowScaleNow q0_columnScaleNow q0_basic q0_text q0_turned q0_na q0_nb q0_nc vq0_m vq0_n vq0_length vq0_where vq0_effort vq0_thrown vq0_at vq0_scaled vq0_solved vq0_second vq0_nm vq0_nn vq0_number vq0_bad vq0_sa (vf_upd vq0_x x7.toNatClampNeg (FP.dadd (vq0_x x7.toNatClampNeg) (FP.dmul x5 (vq0_dx x7.toNatClampNeg)))) vq0_s vq0_y vq0_d vq0_h vq0_big vq0_dt vq0_dx) := hD
        refine lv_aload_n hx hb d_M_move_258 rfl (lv_at hl 0 rfl) ?_
        refine va_get (D := D) (ci := 8) (v := .ref q0_s) (C := "ConeForgeModel") (T := FM) (N := 46) hx hb hts iM hown hK hP 0 rfl rfl 9 (by decide) (hts _ (bgc bw693)) (fun _ h9 => h9) rfl d_M_move_259 ?_
        refine lv_iload hx hb d_M_move_262 (lv_at hl 3 rfl) ?_
        refine lv_aload_n hx hb d_M_move_264 rfl (lv_at hl 0 rfl) ?_
        refine va_get (D := D) (ci := 8) (v := .ref q0_s) (C := "ConeForgeModel") (T := FM) (N := 46) hx hb hts iM hown hK hP 0 rfl rfl 9 (by decide) (hts _ (bgc bw693)) (fun _ h9 => h9) rfl d_M_move_265 ?_
        refine lv_iload hx hb d_M_move_268 (lv_at hl 3 rfl) ?_
        obtain ⟨g13, h⟩ := gd_some h
        refine va_dald hx hb hK hP 3 0 rfl rfl (inb_in g13) d_M_move_270 ?_
        refine lv_dload_n hx hb d_M_move_271 rfl (lv_at hl 1 rfl) ?_
        refine lv_aload_n hx hb d_M_move_272 rfl (lv_at hl 0 rfl) ?_
        refine va_get (D := D) (ci := 8) (v := .ref q0_dt) (C := "ConeForgeModel") (T := FM) (N := 46) hx hb hts iM hown hK hP 0 rfl rfl 20 (by decide) (hts _ (bgc bw704)) (fun _ h9 => h9) rfl d_M_move_273 ?_
        refine lv_iload hx hb d_M_move_276 (lv_at hl 3 rfl) ?_
        obtain ⟨g14, h⟩ := gd_some h
        refine va_dald hx hb hK hP 8 0 rfl rfl (inb_in g14) d_M_move_278 ?_
        obtain ⟨g15, h⟩ := gd_some h
        refine lv_dmul hx hb d_M_move_279 (isn_n g15) ?_
        obtain ⟨g16, h⟩ := gd_some h
        refine lv_dadd hx hb d_M_move_280 (isn_n g16) ?_
        obtain ⟨g17, h⟩ := gd_some h
        refine va_dast hx hb hK hP hD hS 3 0 rfl rfl (inb_in g17) d_M_move_281 (fun H locs hP hD hS => ?_)
        have hP : va_P D CL (w_M_move T q0 q0_a q0_b q0_c q0_rowScale q0_columnScale q0_sa q0_sb q0_sc q0_x q0_s q0_y q0_p q0_d q0_h q0_f q0_mm q0_low q0_dd q0_r q0_big q0_dt q0_dx q0_t q0_cost q0_rowScaleNow q0_columnScaleNow q0_basic q0_text q0_turned q0_na q0_nb q0_nc vq0_m vq0_n vq0_length vq0_where vq0_effort vq0_thrown vq0_at vq0_scaled vq0_solved vq0_second vq0_nm vq0_nn vq0_number vq0_bad vq0_sa (vf_upd vq0_x x7.toNatClampNeg (FP.dadd (vq0_x x7.toNatClampNeg) (FP.dmul x5 (vq0_dx x7.toNatClampNeg)))) (vf_upd vq0_s x7.toNatClampNeg (FP.dadd (vq0_s x7.toNatClampNeg) (FP.dmul x3 (vq0_dt x7.toNatClampNeg)))) vq0_y vq0_d vq0_h vq0_big vq0_dt vq0_dx) H := hP
        have hD : va_D A (w_M_move T q0 q0_a q0_b q0_c q0_rowScale q0_columnScale q0_sa q0_sb q0_sc q0_x q0_s q0_y q0_p q0_d q0_h q0_f q0_mm q0_low q0_dd q0_r q0_big q0_dt q0_dx q0_t q0_cost q0_rowScaleNow q0_columnScaleNow q0_basic q0_text q0_turned q0_na q0_nb q0_nc vq0_m vq0_n vq0_length vq0_where vq0_effort vq0_thrown vq0_at vq0_scaled vq0_solved vq0_second vq0_nm vq0_nn vq0_number vq0_bad vq0_sa (vf_upd vq0_x x7.toNatClampNeg (FP.dadd (vq0_x x7.toNatClampNeg) (FP.dmul x5 (vq0_dx x7.toNatClampNeg)))) (vf_upd vq0_s x7.toNatClampNeg (FP.dadd (vq0_s x7.toNatClampNeg) (FP.dmul x3 (vq0_dt x7.toNatClampNeg)))) vq0_y vq0_d vq0_h vq0_big vq0_dt vq0_dx) := hD
        refine lv_iinc (v := x7 + 1) (lv' := [(7, .int (x7 + 1)), (0, .ref q0), (3, .double x3), (5, .double x5)]) hx hb d_M_move_282 hl (k := 3) rfl rfl (by decide) rfl (fun ls hl => ?_)
        refine lv_goto (tgt := 224) hx hb d_M_move_285 (by decide) ?_
        exact kc224 _ (Option.some.inj h).symm H locs ls hP hD hS (lv_sub hl [1, 2, 3, 0] rfl)
    · intro H locs ls hP hD hS hl
      refine lv_iconst (v := 0) hx hb d_M_move_288 (by decide) ?_
      refine lv_istore (lv' := [(7, .int 0), (0, .ref q0), (3, .double x3)]) hx hb d_M_move_289 hl (by decide) rfl (fun ls hl => ?_)
      exact L291 ul224.1 ul224.2 vq0_y vq0_dt vq0_dx x3 0 H locs ls hP hD hS (lv_sub hl [1, 2, 0] rfl) h
  have L8 : ∀ (vq0_x : Nat → UInt64) (vq0_s : Nat → UInt64) (vq0_y : Nat → UInt64) (vq0_dt : Nat → UInt64) (vq0_dx : Nat → UInt64) (x1 : UInt64) (x3 : UInt64) (x5 : UInt64) (x7 : Int32), ∀ (H : Heap) (locs : List Loc) (ls : Array Slot), va_P D CL (w_M_move T q0 q0_a q0_b q0_c q0_rowScale q0_columnScale q0_sa q0_sb q0_sc q0_x q0_s q0_y q0_p q0_d q0_h q0_f q0_mm q0_low q0_dd q0_r q0_big q0_dt q0_dx q0_t q0_cost q0_rowScaleNow q0_columnScaleNow q0_basic q0_text q0_turned q0_na q0_nb q0_nc vq0_m vq0_n vq0_length vq0_where vq0_effort vq0_thrown vq0_at vq0_scaled vq0_solved vq0_second vq0_nm vq0_nn vq0_number vq0_bad vq0_sa vq0_x vq0_s vq0_y vq0_d vq0_h vq0_big vq0_dt vq0_dx) H → va_D A (w_M_move T q0 q0_a q0_b q0_c q0_rowScale q0_columnScale q0_sa q0_sb q0_sc q0_x q0_s q0_y q0_p q0_d q0_h q0_f q0_mm q0_low q0_dd q0_r q0_big q0_dt q0_dx q0_t q0_cost q0_rowScaleNow q0_columnScaleNow q0_basic q0_text q0_turned q0_na q0_nb q0_nc vq0_m vq0_n vq0_length vq0_where vq0_effort vq0_thrown vq0_at vq0_scaled vq0_solved vq0_second vq0_nm vq0_nn vq0_number vq0_bad vq0_sa vq0_x vq0_s vq0_y vq0_d vq0_h vq0_big vq0_dt vq0_dx) → va_S A s.heap H locs → lv_has ls 10 [(0, .ref q0), (1, .double x1), (3, .double x3), (5, .double x5), (7, .int x7)] → s_M_move_L8 vq0_m vq0_n vq0_length vq0_where vq0_effort vq0_thrown vq0_at vq0_scaled vq0_solved vq0_second vq0_nm vq0_nn vq0_number vq0_bad vq0_sa vq0_x vq0_s vq0_y vq0_d vq0_h vq0_big vq0_dt vq0_dx x1 x3 x5 x7 = some rm → W p l e (rmk 0 0) s m args below meth c H locs 0 0 Q (F0 m 8 ls []) := by
    intro vq0_x vq0_s vq0_y vq0_dt vq0_dx x1 x3 x5 x7 H locs ls hP hD hS hl h
    unfold s_M_move_L8 at h
    obtain ⟨ul8, hul8, h⟩ := bi_some h
    refine loopO_W (Wh := fun (st : (Nat → UInt64) × (Nat → UInt64) × UInt64 × UInt64 × Int32) => ∀ (H : Heap) (locs : List Loc) (ls : Array Slot), va_P D CL (w_M_move T q0 q0_a q0_b q0_c q0_rowScale q0_columnScale q0_sa q0_sb q0_sc q0_x q0_s q0_y q0_p q0_d q0_h q0_f q0_mm q0_low q0_dd q0_r q0_big q0_dt q0_dx q0_t q0_cost q0_rowScaleNow q0_columnScaleNow q0_basic q0_text q0_turned q0_na q0_nb q0_nc vq0_m vq0_n vq0_length vq0_where vq0_effort vq0_thrown vq0_at vq0_scaled vq0_solved vq0_second vq0_nm vq0_nn vq0_number vq0_bad vq0_sa vq0_x vq0_s vq0_y vq0_d vq0_h vq0_big st.1 st.2.1) H → va_D A (w_M_move T q0 q0_a q0_b q0_c q0_rowScale q0_columnScale q0_sa q0_sb q0_sc q0_x q0_s q0_y q0_p q0_d q0_h q0_f q0_mm q0_low q0_dd q0_r q0_big q0_dt q0_dx q0_t q0_cost q0_rowScaleNow q0_columnScaleNow q0_basic q0_text q0_turned q0_na q0_nb q0_nc vq0_m vq0_n vq0_length vq0_where vq0_effort vq0_thrown vq0_at vq0_scaled vq0_solved vq0_second vq0_nm vq0_nn vq0_number vq0_bad vq0_sa vq0_x vq0_s vq0_y vq0_d vq0_h vq0_big st.1 st.2.1) → va_S A s.heap H locs → lv_has ls 10 [(0, .ref q0), (1, .double x1), (3, .double st.2.2.1), (5, .double st.2.2.2.1), (7, .int st.2.2.2.2)] → W p l e (rmk 0 0) s m args below meth c H locs 0 0 Q (F0 m 8 ls [])) (Wx := fun (e1 : (Nat → UInt64) × (Nat → UInt64) × UInt64 × UInt64) => ∀ (H : Heap) (locs : List Loc) (ls : Array Slot), va_P D CL (w_M_move T q0 q0_a q0_b q0_c q0_rowScale q0_columnScale q0_sa q0_sb q0_sc q0_x q0_s q0_y q0_p q0_d q0_h q0_f q0_mm q0_low q0_dd q0_r q0_big q0_dt q0_dx q0_t q0_cost q0_rowScaleNow q0_columnScaleNow q0_basic q0_text q0_turned q0_na q0_nb q0_nc vq0_m vq0_n vq0_length vq0_where vq0_effort vq0_thrown vq0_at vq0_scaled vq0_solved vq0_second vq0_nm vq0_nn vq0_number vq0_bad vq0_sa vq0_x vq0_s vq0_y vq0_d vq0_h vq0_big e1.1 e1.2.1) H → va_D A (w_M_move T q0 q0_a q0_b q0_c q0_rowScale q0_columnScale q0_sa q0_sb q0_sc q0_x q0_s q0_y q0_p q0_d q0_h q0_f q0_mm q0_low q0_dd q0_r q0_big q0_dt q0_dx q0_t q0_cost q0_rowScaleNow q0_columnScaleNow q0_basic q0_text q0_turned q0_na q0_nb q0_nc vq0_m vq0_n vq0_length vq0_where vq0_effort vq0_thrown vq0_at vq0_scaled vq0_solved vq0_second vq0_nm vq0_nn vq0_number vq0_bad vq0_sa vq0_x vq0_s vq0_y vq0_d vq0_h vq0_big e1.1 e1.2.1) → va_S A s.heap H locs → lv_has ls 10 [(0, .ref q0), (3, .double e1.2.2.1), (5, .double e1.2.2.2)] → W p l e (rmk 0 0) s m args below meth c H locs 0 0 Q (F0 m 221 ls [])) ?_ 2000 _ ul8 hul8 ?_ H locs ls hP hD hS hl
    · intro st rb8 h kc8 kx8 H locs ls hP hD hS hl
      obtain ⟨vq0_dt, vq0_dx, x3, x5, x7⟩ := st
      have h : s_M_move_B8 vq0_m vq0_n vq0_length vq0_where vq0_effort vq0_thrown vq0_at vq0_scaled vq0_solved vq0_second vq0_nm vq0_nn vq0_number vq0_bad vq0_sa vq0_x vq0_s vq0_y vq0_d vq0_h vq0_big x1 vq0_dt vq0_dx x3 x5 x7 = some rb8 := h
      have J215 : ∀ (vq0_dt : Nat → UInt64) (vq0_dx : Nat → UInt64) (x3 : UInt64) (x5 : UInt64) (x7 : Int32), ∀ (H : Heap) (locs : List Loc) (ls : Array Slot), va_P D CL (w_M_move T q0 q0_a q0_b q0_c q0_rowScale q0_columnScale q0_sa q0_sb q0_sc q0_x q0_s q0_y q0_p q0_d q0_h q0_f q0_mm q0_low q0_dd q0_r q0_big q0_dt q0_dx q0_t q0_cost q0_rowScaleNow q0_columnScaleNow q0_basic q0_text q0_turned q0_na q0_nb q0_nc vq0_m vq0_n vq0_length vq0_where vq0_effort vq0_thrown vq0_at vq0_scaled vq0_solved vq0_second vq0_nm vq0_nn vq0_number vq0_bad vq0_sa vq0_x vq0_s vq0_y vq0_d vq0_h vq0_big vq0_dt vq0_dx) H → va_D A (w_M_move T q0 q0_a q0_b q0_c q0_rowScale q0_columnScale q0_sa q0_sb q0_sc q0_x q0_s q0_y q0_p q0_d q0_h q0_f q0_mm q0_low q0_dd q0_r q0_big q0_dt q0_dx q0_t q0_cost q0_rowScaleNow q0_columnScaleNow q0_basic q0_text q0_turned q0_na q0_nb q0_nc vq0_m vq0_n vq0_length vq0_where vq0_effort vq0_thrown vq0_at vq0_scaled vq0_solved vq0_second vq0_nm vq0_nn vq0_number vq0_bad vq0_sa vq0_x vq0_s vq0_y vq0_d vq0_h vq0_big vq0_dt vq0_dx) → va_S A s.heap H locs → lv_has ls 10 [(0, .ref q0), (1, .double x1), (3, .double x3), (5, .double x5), (7, .int x7)] → s_M_move_J215 vq0_m vq0_n vq0_length vq0_where vq0_effort vq0_thrown vq0_at vq0_scaled vq0_solved vq0_second vq0_nm vq0_nn vq0_number vq0_bad vq0_sa vq0_x vq0_s vq0_y vq0_d vq0_h vq0_big vq0_dt vq0_dx x1 x3 x5 x7 = some rb8 → W p l e (rmk 0 0) s m args below meth c H locs 0 0 Q (F0 m 215 ls []) := by
        intro vq0_dt vq0_dx x3 x5 x7 H locs ls hP hD hS hl h
        unfold s_M_move_J215 at h
        refine lv_iinc (v := x7 + 1) (lv' := [(7, .int (x7 + 1)), (0, .ref q0), (1, .double x1), (3, .double x3), (5, .double x5)]) hx hb d_M_move_215 hl (k := 4) rfl rfl (by decide) rfl (fun ls hl => ?_)
        refine lv_goto (tgt := 8) hx hb d_M_move_218 (by decide) ?_
        exact kc8 _ (Option.some.inj h).symm H locs ls hP hD hS (lv_sub hl [1, 2, 3, 4, 0] rfl)
      have J171 : ∀ (vq0_dt : Nat → UInt64) (vq0_dx : Nat → UInt64) (x3 : UInt64) (x5 : UInt64) (x7 : Int32), ∀ (H : Heap) (locs : List Loc) (ls : Array Slot), va_P D CL (w_M_move T q0 q0_a q0_b q0_c q0_rowScale q0_columnScale q0_sa q0_sb q0_sc q0_x q0_s q0_y q0_p q0_d q0_h q0_f q0_mm q0_low q0_dd q0_r q0_big q0_dt q0_dx q0_t q0_cost q0_rowScaleNow q0_columnScaleNow q0_basic q0_text q0_turned q0_na q0_nb q0_nc vq0_m vq0_n vq0_length vq0_where vq0_effort vq0_thrown vq0_at vq0_scaled vq0_solved vq0_second vq0_nm vq0_nn vq0_number vq0_bad vq0_sa vq0_x vq0_s vq0_y vq0_d vq0_h vq0_big vq0_dt vq0_dx) H → va_D A (w_M_move T q0 q0_a q0_b q0_c q0_rowScale q0_columnScale q0_sa q0_sb q0_sc q0_x q0_s q0_y q0_p q0_d q0_h q0_f q0_mm q0_low q0_dd q0_r q0_big q0_dt q0_dx q0_t q0_cost q0_rowScaleNow q0_columnScaleNow q0_basic q0_text q0_turned q0_na q0_nb q0_nc vq0_m vq0_n vq0_length vq0_where vq0_effort vq0_thrown vq0_at vq0_scaled vq0_solved vq0_second vq0_nm vq0_nn vq0_number vq0_bad vq0_sa vq0_x vq0_s vq0_y vq0_d vq0_h vq0_big vq0_dt vq0_dx) → va_S A s.heap H locs → lv_has ls 10 [(0, .ref q0), (1, .double x1), (3, .double x3), (5, .double x5), (7, .int x7)] → s_M_move_J171 vq0_m vq0_n vq0_length vq0_where vq0_effort vq0_thrown vq0_at vq0_scaled vq0_solved vq0_second vq0_nm vq0_nn vq0_number vq0_bad vq0_sa vq0_x vq0_s vq0_y vq0_d vq0_h vq0_big vq0_dt vq0_dx x1 x3 x5 x7 = some rb8 → W p l e (rmk 0 0) s m args below meth c H locs 0 0 Q (F0 m 171 ls []) := by
        intro vq0_dt vq0_dx x3 x5 x7 H locs ls hP hD hS hl h
        unfold s_M_move_J171 at h
        refine lv_aload_n hx hb d_M_move_171 rfl (lv_at hl 0 rfl) ?_
        refine va_get (D := D) (ci := 8) (v := .ref q0_dt) (C := "ConeForgeModel") (T := FM) (N := 46) hx hb hts iM hown hK hP 0 rfl rfl 20 (by decide) (hts _ (bgc bw704)) (fun _ h9 => h9) rfl d_M_move_172 ?_
        refine lv_iload hx hb d_M_move_175 (lv_at hl 4 rfl) ?_
        obtain ⟨g18, h⟩ := gd_some h
        refine va_dald hx hb hK hP 8 0 rfl rfl (inb_in g18) d_M_move_177 ?_
        refine lv_dconst0 hx hb d_M_move_178 ?_
        refine lv_dcmp hx hb d_M_move_179 ?_
        refine lv_if_ge (tgt := 215) hx hb d_M_move_180 (by decide) (fun c19 => ?_) (fun c19 => ?_)
        · have h := it_t c19 h
          exact J215 vq0_dt vq0_dx x3 x5 x7 H locs ls hP hD hS (lv_sub hl [0, 1, 2, 3, 4] rfl) h
        · have h := it_f c19 h
          refine lv_ldc2d (v := 4607137382803743703) hx hb hown (hts _ (bgc bw880)) d_M_move_183 ?_
          refine lv_aload_n hx hb d_M_move_186 rfl (lv_at hl 0 rfl) ?_
          refine va_get (D := D) (ci := 8) (v := .ref q0_s) (C := "ConeForgeModel") (T := FM) (N := 46) hx hb hts iM hown hK hP 0 rfl rfl 9 (by decide) (hts _ (bgc bw693)) (fun _ h9 => h9) rfl d_M_move_187 ?_
          refine lv_iload hx hb d_M_move_190 (lv_at hl 4 rfl) ?_
          obtain ⟨g20, h⟩ := gd_some h
          refine va_dald hx hb hK hP 3 0 rfl rfl (inb_in g20) d_M_move_192 ?_
          refine lv_aload_n hx hb d_M_move_193 rfl (lv_at hl 0 rfl) ?_
          refine va_get (D := D) (ci := 8) (v := .ref q0_dt) (C := "ConeForgeModel") (T := FM) (N := 46) hx hb hts iM hown hK hP 0 rfl rfl 20 (by decide) (hts _ (bgc bw704)) (fun _ h9 => h9) rfl d_M_move_194 ?_
          refine lv_iload hx hb d_M_move_197 (lv_at hl 4 rfl) ?_
          obtain ⟨g21, h⟩ := gd_some h
          refine va_dald hx hb hK hP 8 0 rfl rfl (inb_in g21) d_M_move_199 ?_
          refine lv_dneg hx hb d_M_move_200 ?_
          obtain ⟨g22, h⟩ := gd_some h
          refine lv_ddiv hx hb d_M_move_201 (isn_n g22) ?_
          obtain ⟨g23, h⟩ := gd_some h
          refine lv_dmul hx hb d_M_move_202 (isn_n g23) ?_
          refine lv_dstore (lv' := [(8, .double (FP.dmul 4607137382803743703 (FP.ddiv (vq0_s x7.toNatClampNeg) (FP.dneg (vq0_dt x7.toNatClampNeg))))), (0, .ref q0), (1, .double x1), (3, .double x3), (5, .double x5), (7, .int x7)]) hx hb d_M_move_203 hl (by decide) rfl (fun ls hl => ?_)
          refine lv_dload hx hb d_M_move_205 (lv_at hl 0 rfl) ?_
          refine lv_dload_n hx hb d_M_move_207 rfl (lv_at hl 3 rfl) ?_
          refine lv_dcmp hx hb d_M_move_208 ?_
          refine lv_if_ge (tgt := 215) hx hb d_M_move_209 (by decide) (fun c24 => ?_) (fun c24 => ?_)
          · have h := it_t c24 h
            exact J215 vq0_dt vq0_dx x3 x5 x7 H locs ls hP hD hS (lv_sub hl [1, 2, 3, 4, 5] rfl) h
          · have h := it_f c24 h
            refine lv_dload hx hb d_M_move_212 (lv_at hl 0 rfl) ?_
            refine lv_dstore_n (lv' := [(3, .double (FP.dmul 4607137382803743703 (FP.ddiv (vq0_s x7.toNatClampNeg) (FP.dneg (vq0_dt x7.toNatClampNeg))))), (8, .double (FP.dmul 4607137382803743703 (FP.ddiv (vq0_s x7.toNatClampNeg) (FP.dneg (vq0_dt x7.toNatClampNeg))))), (0, .ref q0), (1, .double x1), (5, .double x5), (7, .int x7)]) hx hb d_M_move_214 rfl hl (by decide) rfl (fun ls hl => ?_)
            exact J215 vq0_dt vq0_dx (FP.dmul 4607137382803743703 (FP.ddiv (vq0_s x7.toNatClampNeg) (FP.dneg (vq0_dt x7.toNatClampNeg)))) x5 x7 H locs ls hP hD hS (lv_sub hl [2, 3, 0, 4, 5] rfl) h
      have L34 : ∀ (vq0_dt : Nat → UInt64) (vq0_dx : Nat → UInt64) (x3 : UInt64) (x5 : UInt64) (x7 : Int32) (x8 : Int32), ∀ (H : Heap) (locs : List Loc) (ls : Array Slot), va_P D CL (w_M_move T q0 q0_a q0_b q0_c q0_rowScale q0_columnScale q0_sa q0_sb q0_sc q0_x q0_s q0_y q0_p q0_d q0_h q0_f q0_mm q0_low q0_dd q0_r q0_big q0_dt q0_dx q0_t q0_cost q0_rowScaleNow q0_columnScaleNow q0_basic q0_text q0_turned q0_na q0_nb q0_nc vq0_m vq0_n vq0_length vq0_where vq0_effort vq0_thrown vq0_at vq0_scaled vq0_solved vq0_second vq0_nm vq0_nn vq0_number vq0_bad vq0_sa vq0_x vq0_s vq0_y vq0_d vq0_h vq0_big vq0_dt vq0_dx) H → va_D A (w_M_move T q0 q0_a q0_b q0_c q0_rowScale q0_columnScale q0_sa q0_sb q0_sc q0_x q0_s q0_y q0_p q0_d q0_h q0_f q0_mm q0_low q0_dd q0_r q0_big q0_dt q0_dx q0_t q0_cost q0_rowScaleNow q0_columnScaleNow q0_basic q0_text q0_turned q0_na q0_nb q0_nc vq0_m vq0_n vq0_length vq0_where vq0_effort vq0_thrown vq0_at vq0_scaled vq0_solved vq0_second vq0_nm vq0_nn vq0_number vq0_bad vq0_sa vq0_x vq0_s vq0_y vq0_d vq0_h vq0_big vq0_dt vq0_dx) → va_S A s.heap H locs → lv_has ls 10 [(0, .ref q0), (1, .double x1), (3, .double x3), (5, .double x5), (7, .int x7), (8, .int x8)] → s_M_move_L34 vq0_m vq0_n vq0_length vq0_where vq0_effort vq0_thrown vq0_at vq0_scaled vq0_solved vq0_second vq0_nm vq0_nn vq0_number vq0_bad vq0_sa vq0_x vq0_s vq0_y vq0_d vq0_h vq0_big vq0_dt vq0_dx x1 x3 x5 x7 x8 = some rb8 → W p l e (rmk 0 0) s m args below meth c H locs 0 0 Q (F0 m 34 ls []) := by
        intro vq0_dt vq0_dx x3 x5 x7 x8 H locs ls hP hD hS hl h
        unfold s_M_move_L34 at h
        obtain ⟨ul34, hul34, h⟩ := bi_some h
        refine loopO_W (Wh := fun (st : (Nat → UInt64) × Int32) => ∀ (H : Heap) (locs : List Loc) (ls : Array Slot), va_P D CL (w_M_move T q0 q0_a q0_b q0_c q0_rowScale q0_columnScale q0_sa q0_sb q0_sc q0_x q0_s q0_y q0_p q0_d q0_h q0_f q0_mm q0_low q0_dd q0_r q0_big q0_dt q0_dx q0_t q0_cost q0_rowScaleNow q0_columnScaleNow q0_basic q0_text q0_turned q0_na q0_nb q0_nc vq0_m vq0_n vq0_length vq0_where vq0_effort vq0_thrown vq0_at vq0_scaled vq0_solved vq0_second vq0_nm vq0_nn vq0_number vq0_bad vq0_sa vq0_x vq0_s vq0_y vq0_d vq0_h vq0_big st.1 vq0_dx) H → va_D A (w_M_move T q0 q0_a q0_b q0_c q0_rowScale q0_columnScale q0_sa q0_sb q0_sc q0_x q0_s q0_y q0_p q0_d q0_h q0_f q0_mm q0_low q0_dd q0_r q0_big q0_dt q0_dx q0_t q0_cost q0_rowScaleNow q0_columnScaleNow q0_basic q0_text q0_turned q0_na q0_nb q0_nc vq0_m vq0_n vq0_length vq0_where vq0_effort vq0_thrown vq0_at vq0_scaled vq0_solved vq0_second vq0_nm vq0_nn vq0_number vq0_bad vq0_sa vq0_x vq0_s vq0_y vq0_d vq0_h vq0_big st.1 vq0_dx) → va_S A s.heap H locs → lv_has ls 10 [(0, .ref q0), (1, .double x1), (3, .double x3), (5, .double x5), (7, .int x7), (8, .int st.2)] → W p l e (rmk 0 0) s m args below meth c H locs 0 0 Q (F0 m 34 ls [])) (Wx := fun (e1 : (Nat → UInt64)) => ∀ (H : Heap) (locs : List Loc) (ls : Array Slot), va_P D CL (w_M_move T q0 q0_a q0_b q0_c q0_rowScale q0_columnScale q0_sa q0_sb q0_sc q0_x q0_s q0_y q0_p q0_d q0_h q0_f q0_mm q0_low q0_dd q0_r q0_big q0_dt q0_dx q0_t q0_cost q0_rowScaleNow q0_columnScaleNow q0_basic q0_text q0_turned q0_na q0_nb q0_nc vq0_m vq0_n vq0_length vq0_where vq0_effort vq0_thrown vq0_at vq0_scaled vq0_solved vq0_second vq0_nm vq0_nn vq0_number vq0_bad vq0_sa vq0_x vq0_s vq0_y vq0_d vq0_h vq0_big e1 vq0_dx) H → va_D A (w_M_move T q0 q0_a q0_b q0_c q0_rowScale q0_columnScale q0_sa q0_sb q0_sc q0_x q0_s q0_y q0_p q0_d q0_h q0_f q0_mm q0_low q0_dd q0_r q0_big q0_dt q0_dx q0_t q0_cost q0_rowScaleNow q0_columnScaleNow q0_basic q0_text q0_turned q0_na q0_nb q0_nc vq0_m vq0_n vq0_length vq0_where vq0_effort vq0_thrown vq0_at vq0_scaled vq0_solved vq0_second vq0_nm vq0_nn vq0_number vq0_bad vq0_sa vq0_x vq0_s vq0_y vq0_d vq0_h vq0_big e1 vq0_dx) → va_S A s.heap H locs → lv_has ls 10 [(0, .ref q0), (1, .double x1), (3, .double x3), (5, .double x5), (7, .int x7)] → W p l e (rmk 0 0) s m args below meth c H locs 0 0 Q (F0 m 85 ls [])) ?_ 2000 _ ul34 hul34 ?_ H locs ls hP hD hS hl
        · intro st rb34 h kc34 kx34 H locs ls hP hD hS hl
          obtain ⟨vq0_dt, x8⟩ := st
          have h : s_M_move_B34 vq0_m vq0_n vq0_length vq0_where vq0_effort vq0_thrown vq0_at vq0_scaled vq0_solved vq0_second vq0_nm vq0_nn vq0_number vq0_bad vq0_sa vq0_x vq0_s vq0_y vq0_d vq0_h vq0_big vq0_dx x1 x3 x5 x7 vq0_dt x8 = some rb34 := h
          unfold s_M_move_B34 at h
          refine lv_iload hx hb d_M_move_34 (lv_at hl 5 rfl) ?_
          refine lv_aload_n hx hb d_M_move_36 rfl (lv_at hl 0 rfl) ?_
          refine va_get (D := D) (ci := 8) (v := .int vq0_m) (C := "ConeForgeModel") (T := FM) (N := 46) hx hb hts iM hown hK hP 0 rfl rfl 29 (by decide) (hts _ (bgc bw713)) (fun _ h9 => h9) rfl d_M_move_37 ?_
          refine lv_icmp_ge (tgt := 85) hx hb d_M_move_40 (by decide) (fun c25 => ?_) (fun c25 => ?_)
          · have h := it_t c25 h
            exact kx34 _ (Option.some.inj h).symm H locs ls hP hD hS (lv_sub hl [0, 1, 2, 3, 4] rfl)
          · have h := it_f c25 h
            refine lv_aload_n hx hb d_M_move_43 rfl (lv_at hl 0 rfl) ?_
            refine va_get (D := D) (ci := 8) (v := .ref q0_dt) (C := "ConeForgeModel") (T := FM) (N := 46) hx hb hts iM hown hK hP 0 rfl rfl 20 (by decide) (hts _ (bgc bw704)) (fun _ h9 => h9) rfl d_M_move_44 ?_
            refine lv_iload hx hb d_M_move_47 (lv_at hl 4 rfl) ?_
            refine lv_aload_n hx hb d_M_move_49 rfl (lv_at hl 0 rfl) ?_
            refine va_get (D := D) (ci := 8) (v := .ref q0_dt) (C := "ConeForgeModel") (T := FM) (N := 46) hx hb hts iM hown hK hP 0 rfl rfl 20 (by decide) (hts _ (bgc bw704)) (fun _ h9 => h9) rfl d_M_move_50 ?_
            refine lv_iload hx hb d_M_move_53 (lv_at hl 4 rfl) ?_
            obtain ⟨g26, h⟩ := gd_some h
            refine va_dald hx hb hK hP 8 0 rfl rfl (inb_in g26) d_M_move_55 ?_
            refine lv_aload_n hx hb d_M_move_56 rfl (lv_at hl 0 rfl) ?_
            refine va_get (D := D) (ci := 8) (v := .ref q0_sa) (C := "ConeForgeModel") (T := FM) (N := 46) hx hb hts iM hown hK hP 0 rfl rfl 5 (by decide) (hts _ (bgc bw689)) (fun _ h9 => h9) rfl d_M_move_57 ?_
            refine lv_bipush (v := 8) hx hb d_M_move_60 (by decide) ?_
            refine lv_iload hx hb d_M_move_62 (lv_at hl 5 rfl) ?_
            refine lv_imul hx hb d_M_move_64 ?_
            refine lv_iload hx hb d_M_move_65 (lv_at hl 4 rfl) ?_
            refine lv_iadd hx hb d_M_move_67 ?_
            obtain ⟨g27, h⟩ := gd_some h
            refine va_dald hx hb hK hP 1 0 rfl rfl (inb_in g27) d_M_move_68 ?_
            refine lv_aload_n hx hb d_M_move_69 rfl (lv_at hl 0 rfl) ?_
            refine va_get (D := D) (ci := 8) (v := .ref q0_big) (C := "ConeForgeModel") (T := FM) (N := 46) hx hb hts iM hown hK hP 0 rfl rfl 19 (by decide) (hts _ (bgc bw703)) (fun _ h9 => h9) rfl d_M_move_70 ?_
            refine lv_iload hx hb d_M_move_73 (lv_at hl 5 rfl) ?_
            obtain ⟨g28, h⟩ := gd_some h
            refine va_dald hx hb hK hP 7 0 rfl rfl (inb_in g28) d_M_move_75 ?_
            obtain ⟨g29, h⟩ := gd_some h
            refine lv_dmul hx hb d_M_move_76 (isn_n g29) ?_
            obtain ⟨g30, h⟩ := gd_some h
            refine lv_dsub hx hb d_M_move_77 (isn_n g30) ?_
            obtain ⟨g31, h⟩ := gd_some h
            refine va_dast hx hb hK hP hD hS 8 0 rfl rfl (inb_in g31) d_M_move_78 (fun H locs hP hD hS => ?_)
            have hP : va_P D CL (w_M_move T q0 q0_a q0_b q0_c q0_rowScale q0_columnScale q0_sa q0_sb q0_sc q0_x q0_s q0_y q0_p q0_d q0_h q0_f q0_mm q0_low q0_dd q0_r q0_big q0_dt q0_dx q0_t q0_cost q0_rowScaleNow q0_columnScaleNow q0_basic q0_text q0_turned q0_na q0_nb q0_nc vq0_m vq0_n vq0_length vq0_where vq0_effort vq0_thrown vq0_at vq0_scaled vq0_solved vq0_second vq0_nm vq0_nn vq0_number vq0_bad vq0_sa vq0_x vq0_s vq0_y vq0_d vq0_h vq0_big (vf_upd vq0_dt x7.toNatClampNeg (FP.dsub (vq0_dt x7.toNatClampNeg) (FP.dmul (vq0_sa ((8 * x8) + x7).toNatClampNeg) (vq0_big x8.toNatClampNeg)))) vq0_dx) H := hP
            have hD : va_D A (w_M_move T q0 q0_a q0_b q0_c q0_rowScale q0_columnScale q0_sa q0_sb q0_sc q0_x q0_s q0_y q0_p q0_d q0_h q0_f q0_mm q0_low q0_dd q0_r q0_big q0_dt q0_dx q0_t q0_cost q0_rowScaleNow q0_columnScaleNow q0_basic q0_text q0_turned q0_na q0_nb q0_nc vq0_m vq0_n vq0_length vq0_where vq0_effort vq0_thrown vq0_at vq0_scaled vq0_solved vq0_second vq0_nm vq0_nn vq0_number vq0_bad vq0_sa vq0_x vq0_s vq0_y vq0_d vq0_h vq0_big (vf_upd vq0_dt x7.toNatClampNeg (FP.dsub (vq0_dt x7.toNatClampNeg) (FP.dmul (vq0_sa ((8 * x8) + x7).toNatClampNeg) (vq0_big x8.toNatClampNeg)))) vq0_dx) := hD
            refine lv_iinc (v := x8 + 1) (lv' := [(8, .int (x8 + 1)), (0, .ref q0), (1, .double x1), (3, .double x3), (5, .double x5), (7, .int x7)]) hx hb d_M_move_79 hl (k := 5) rfl rfl (by decide) rfl (fun ls hl => ?_)
            refine lv_goto (tgt := 34) hx hb d_M_move_82 (by decide) ?_
            exact kc34 _ (Option.some.inj h).symm H locs ls hP hD hS (lv_sub hl [1, 2, 3, 4, 5, 0] rfl)
        · intro H locs ls hP hD hS hl
          refine lv_aload_n hx hb d_M_move_85 rfl (lv_at hl 0 rfl) ?_
          refine va_get (D := D) (ci := 8) (v := .ref q0_dx) (C := "ConeForgeModel") (T := FM) (N := 46) hx hb hts iM hown hK hP 0 rfl rfl 21 (by decide) (hts _ (bgc bw705)) (fun _ h9 => h9) rfl d_M_move_86 ?_
          refine lv_iload hx hb d_M_move_89 (lv_at hl 4 rfl) ?_
          refine lv_dload_n hx hb d_M_move_91 rfl (lv_at hl 1 rfl) ?_
          refine lv_aload_n hx hb d_M_move_92 rfl (lv_at hl 0 rfl) ?_
          refine va_get (D := D) (ci := 8) (v := .ref q0_s) (C := "ConeForgeModel") (T := FM) (N := 46) hx hb hts iM hown hK hP 0 rfl rfl 9 (by decide) (hts _ (bgc bw693)) (fun _ h9 => h9) rfl d_M_move_93 ?_
          refine lv_iload hx hb d_M_move_96 (lv_at hl 4 rfl) ?_
          obtain ⟨g32, h⟩ := gd_some h
          refine va_dald hx hb hK hP 3 0 rfl rfl (inb_in g32) d_M_move_98 ?_
          obtain ⟨g33, h⟩ := gd_some h
          refine lv_ddiv hx hb d_M_move_99 (isn_n g33) ?_
          refine lv_aload_n hx hb d_M_move_100 rfl (lv_at hl 0 rfl) ?_
          refine va_get (D := D) (ci := 8) (v := .ref q0_x) (C := "ConeForgeModel") (T := FM) (N := 46) hx hb hts iM hown hK hP 0 rfl rfl 8 (by decide) (hts _ (bgc bw692)) (fun _ h9 => h9) rfl d_M_move_101 ?_
          refine lv_iload hx hb d_M_move_104 (lv_at hl 4 rfl) ?_
          obtain ⟨g34, h⟩ := gd_some h
          refine va_dald hx hb hK hP 2 0 rfl rfl (inb_in g34) d_M_move_106 ?_
          obtain ⟨g35, h⟩ := gd_some h
          refine lv_dsub hx hb d_M_move_107 (isn_n g35) ?_
          refine lv_aload_n hx hb d_M_move_108 rfl (lv_at hl 0 rfl) ?_
          refine va_get (D := D) (ci := 8) (v := .ref q0_h) (C := "ConeForgeModel") (T := FM) (N := 46) hx hb hts iM hown hK hP 0 rfl rfl 13 (by decide) (hts _ (bgc bw697)) (fun _ h9 => h9) rfl d_M_move_109 ?_
          refine lv_iload hx hb d_M_move_112 (lv_at hl 4 rfl) ?_
          obtain ⟨g36, h⟩ := gd_some h
          refine va_dald hx hb hK hP 6 0 rfl rfl (inb_in g36) d_M_move_114 ?_
          refine lv_aload_n hx hb d_M_move_115 rfl (lv_at hl 0 rfl) ?_
          refine va_get (D := D) (ci := 8) (v := .ref q0_dt) (C := "ConeForgeModel") (T := FM) (N := 46) hx hb hts iM hown hK hP 0 rfl rfl 20 (by decide) (hts _ (bgc bw704)) (fun _ h9 => h9) rfl d_M_move_116 ?_
          refine lv_iload hx hb d_M_move_119 (lv_at hl 4 rfl) ?_
          obtain ⟨g37, h⟩ := gd_some h
          refine va_dald hx hb hK hP 8 0 rfl rfl (inb_in g37) d_M_move_121 ?_
          obtain ⟨g38, h⟩ := gd_some h
          refine lv_dmul hx hb d_M_move_122 (isn_n g38) ?_
          obtain ⟨g39, h⟩ := gd_some h
          refine lv_dsub hx hb d_M_move_123 (isn_n g39) ?_
          obtain ⟨g40, h⟩ := gd_some h
          refine va_dast hx hb hK hP hD hS 9 0 rfl rfl (inb_in g40) d_M_move_124 (fun H locs hP hD hS => ?_)
          have hP : va_P D CL (w_M_move T q0 q0_a q0_b q0_c q0_rowScale q0_columnScale q0_sa q0_sb q0_sc q0_x q0_s q0_y q0_p q0_d q0_h q0_f q0_mm q0_low q0_dd q0_r q0_big q0_dt q0_dx q0_t q0_cost q0_rowScaleNow q0_columnScaleNow q0_basic q0_text q0_turned q0_na q0_nb q0_nc vq0_m vq0_n vq0_length vq0_where vq0_effort vq0_thrown vq0_at vq0_scaled vq0_solved vq0_second vq0_nm vq0_nn vq0_number vq0_bad vq0_sa vq0_x vq0_s vq0_y vq0_d vq0_h vq0_big ul34 (vf_upd vq0_dx x7.toNatClampNeg (FP.dsub (FP.dsub (FP.ddiv x1 (vq0_s x7.toNatClampNeg)) (vq0_x x7.toNatClampNeg)) (FP.dmul (vq0_h x7.toNatClampNeg) (ul34 x7.toNatClampNeg))))) H := hP
          have hD : va_D A (w_M_move T q0 q0_a q0_b q0_c q0_rowScale q0_columnScale q0_sa q0_sb q0_sc q0_x q0_s q0_y q0_p q0_d q0_h q0_f q0_mm q0_low q0_dd q0_r q0_big q0_dt q0_dx q0_t q0_cost q0_rowScaleNow q0_columnScaleNow q0_basic q0_text q0_turned q0_na q0_nb q0_nc vq0_m vq0_n vq0_length vq0_where vq0_effort vq0_thrown vq0_at vq0_scaled vq0_solved vq0_second vq0_nm vq0_nn vq0_number vq0_bad vq0_sa vq0_x vq0_s vq0_y vq0_d vq0_h vq0_big ul34 (vf_upd vq0_dx x7.toNatClampNeg (FP.dsub (FP.dsub (FP.ddiv x1 (vq0_s x7.toNatClampNeg)) (vq0_x x7.toNatClampNeg)) (FP.dmul (vq0_h x7.toNatClampNeg) (ul34 x7.toNatClampNeg))))) := hD
          refine lv_aload_n hx hb d_M_move_125 rfl (lv_at hl 0 rfl) ?_
          refine va_get (D := D) (ci := 8) (v := .ref q0_dx) (C := "ConeForgeModel") (T := FM) (N := 46) hx hb hts iM hown hK hP 0 rfl rfl 21 (by decide) (hts _ (bgc bw705)) (fun _ h9 => h9) rfl d_M_move_126 ?_
          refine lv_iload hx hb d_M_move_129 (lv_at hl 4 rfl) ?_
          obtain ⟨g41, h⟩ := gd_some h
          refine va_dald hx hb hK hP 9 0 rfl rfl (inb_in g41) d_M_move_131 ?_
          refine lv_dconst0 hx hb d_M_move_132 ?_
          refine lv_dcmp hx hb d_M_move_133 ?_
          refine lv_if_ge (tgt := 171) hx hb d_M_move_134 (by decide) (fun c42 => ?_) (fun c42 => ?_)
          · have h := it_t c42 h
            exact J171 ul34 (vf_upd vq0_dx x7.toNatClampNeg (FP.dsub (FP.dsub (FP.ddiv x1 (vq0_s x7.toNatClampNeg)) (vq0_x x7.toNatClampNeg)) (FP.dmul (vq0_h x7.toNatClampNeg) (ul34 x7.toNatClampNeg)))) x3 x5 x7 H locs ls hP hD hS (lv_sub hl [0, 1, 2, 3, 4] rfl) h
          · have h := it_f c42 h
            refine lv_ldc2d (v := 4607137382803743703) hx hb hown (hts _ (bgc bw880)) d_M_move_137 ?_
            refine lv_aload_n hx hb d_M_move_140 rfl (lv_at hl 0 rfl) ?_
            refine va_get (D := D) (ci := 8) (v := .ref q0_x) (C := "ConeForgeModel") (T := FM) (N := 46) hx hb hts iM hown hK hP 0 rfl rfl 8 (by decide) (hts _ (bgc bw692)) (fun _ h9 => h9) rfl d_M_move_141 ?_
            refine lv_iload hx hb d_M_move_144 (lv_at hl 4 rfl) ?_
            obtain ⟨g43, h⟩ := gd_some h
            refine va_dald hx hb hK hP 2 0 rfl rfl (inb_in g43) d_M_move_146 ?_
            refine lv_aload_n hx hb d_M_move_147 rfl (lv_at hl 0 rfl) ?_
            refine va_get (D := D) (ci := 8) (v := .ref q0_dx) (C := "ConeForgeModel") (T := FM) (N := 46) hx hb hts iM hown hK hP 0 rfl rfl 21 (by decide) (hts _ (bgc bw705)) (fun _ h9 => h9) rfl d_M_move_148 ?_
            refine lv_iload hx hb d_M_move_151 (lv_at hl 4 rfl) ?_
            obtain ⟨g44, h⟩ := gd_some h
            refine va_dald hx hb hK hP 9 0 rfl rfl (inb_in g44) d_M_move_153 ?_
            refine lv_dneg hx hb d_M_move_154 ?_
            obtain ⟨g45, h⟩ := gd_some h
            refine lv_ddiv hx hb d_M_move_155 (isn_n g45) ?_
            obtain ⟨g46, h⟩ := gd_some h
            refine lv_dmul hx hb d_M_move_156 (isn_n g46) ?_
            refine lv_dstore (lv' := [(8, .double (FP.dmul 4607137382803743703 (FP.ddiv (vq0_x x7.toNatClampNeg) (FP.dneg ((vf_upd vq0_dx x7.toNatClampNeg (FP.dsub (FP.dsub (FP.ddiv x1 (vq0_s x7.toNatClampNeg)) (vq0_x x7.toNatClampNeg)) (FP.dmul (vq0_h x7.toNatClampNeg) (ul34 x7.toNatClampNeg)))) x7.toNatClampNeg))))), (0, .ref q0), (1, .double x1), (3, .double x3), (5, .double x5), (7, .int x7)]) hx hb d_M_move_157 hl (by decide) rfl (fun ls hl => ?_)
            refine lv_dload hx hb d_M_move_159 (lv_at hl 0 rfl) ?_
            refine lv_dload hx hb d_M_move_161 (lv_at hl 4 rfl) ?_
            refine lv_dcmp hx hb d_M_move_163 ?_
            refine lv_if_ge (tgt := 171) hx hb d_M_move_164 (by decide) (fun c47 => ?_) (fun c47 => ?_)
            · have h := it_t c47 h
              exact J171 ul34 (vf_upd vq0_dx x7.toNatClampNeg (FP.dsub (FP.dsub (FP.ddiv x1 (vq0_s x7.toNatClampNeg)) (vq0_x x7.toNatClampNeg)) (FP.dmul (vq0_h x7.toNatClampNeg) (ul34 x7.toNatClampNeg)))) x3 x5 x7 H locs ls hP hD hS (lv_sub hl [1, 2, 3, 4, 5] rfl) h
            · have h := it_f c47 h
              refine lv_dload hx hb d_M_move_167 (lv_at hl 0 rfl) ?_
              refine lv_dstore (lv' := [(5, .double (FP.dmul 4607137382803743703 (FP.ddiv (vq0_x x7.toNatClampNeg) (FP.dneg ((vf_upd vq0_dx x7.toNatClampNeg (FP.dsub (FP.dsub (FP.ddiv x1 (vq0_s x7.toNatClampNeg)) (vq0_x x7.toNatClampNeg)) (FP.dmul (vq0_h x7.toNatClampNeg) (ul34 x7.toNatClampNeg)))) x7.toNatClampNeg))))), (8, .double (FP.dmul 4607137382803743703 (FP.ddiv (vq0_x x7.toNatClampNeg) (FP.dneg ((vf_upd vq0_dx x7.toNatClampNeg (FP.dsub (FP.dsub (FP.ddiv x1 (vq0_s x7.toNatClampNeg)) (vq0_x x7.toNatClampNeg)) (FP.dmul (vq0_h x7.toNatClampNeg) (ul34 x7.toNatClampNeg)))) x7.toNatClampNeg))))), (0, .ref q0), (1, .double x1), (3, .double x3), (7, .int x7)]) hx hb d_M_move_169 hl (by decide) rfl (fun ls hl => ?_)
              exact J171 ul34 (vf_upd vq0_dx x7.toNatClampNeg (FP.dsub (FP.dsub (FP.ddiv x1 (vq0_s x7.toNatClampNeg)) (vq0_x x7.toNatClampNeg)) (FP.dmul (vq0_h x7.toNatClampNeg) (ul34 x7.toNatClampNeg)))) x3 (FP.dmul 4607137382803743703 (FP.ddiv (vq0_x x7.toNatClampNeg) (FP.dneg ((vf_upd vq0_dx x7.toNatClampNeg (FP.dsub (FP.dsub (FP.ddiv x1 (vq0_s x7.toNatClampNeg)) (vq0_x x7.toNatClampNeg)) (FP.dmul (vq0_h x7.toNatClampNeg) (ul34 x7.toNatClampNeg)))) x7.toNatClampNeg)))) x7 H locs ls hP hD hS (lv_sub hl [2, 3, 4, 0, 5] rfl) h
      unfold s_M_move_B8 at h
      refine lv_iload hx hb d_M_move_8 (lv_at hl 4 rfl) ?_
      refine lv_aload_n hx hb d_M_move_10 rfl (lv_at hl 0 rfl) ?_
      refine va_get (D := D) (ci := 8) (v := .int vq0_n) (C := "ConeForgeModel") (T := FM) (N := 46) hx hb hts iM hown hK hP 0 rfl rfl 30 (by decide) (hts _ (bgc bw714)) (fun _ h9 => h9) rfl d_M_move_11 ?_
      refine lv_icmp_ge (tgt := 221) hx hb d_M_move_14 (by decide) (fun c48 => ?_) (fun c48 => ?_)
      · have h := it_t c48 h
        exact kx8 _ (Option.some.inj h).symm H locs ls hP hD hS (lv_sub hl [0, 2, 3] rfl)
      · have h := it_f c48 h
        refine lv_aload_n hx hb d_M_move_17 rfl (lv_at hl 0 rfl) ?_
        refine va_get (D := D) (ci := 8) (v := .ref q0_dt) (C := "ConeForgeModel") (T := FM) (N := 46) hx hb hts iM hown hK hP 0 rfl rfl 20 (by decide) (hts _ (bgc bw704)) (fun _ h9 => h9) rfl d_M_move_18 ?_
        refine lv_iload hx hb d_M_move_21 (lv_at hl 4 rfl) ?_
        refine lv_aload_n hx hb d_M_move_23 rfl (lv_at hl 0 rfl) ?_
        refine va_get (D := D) (ci := 8) (v := .ref q0_d) (C := "ConeForgeModel") (T := FM) (N := 46) hx hb hts iM hown hK hP 0 rfl rfl 12 (by decide) (hts _ (bgc bw696)) (fun _ h9 => h9) rfl d_M_move_24 ?_
        refine lv_iload hx hb d_M_move_27 (lv_at hl 4 rfl) ?_
        obtain ⟨g49, h⟩ := gd_some h
        refine va_dald hx hb hK hP 5 0 rfl rfl (inb_in g49) d_M_move_29 ?_
        obtain ⟨g50, h⟩ := gd_some h
        refine va_dast hx hb hK hP hD hS 8 0 rfl rfl (inb_in g50) d_M_move_30 (fun H locs hP hD hS => ?_)
        have hP : va_P D CL (w_M_move T q0 q0_a q0_b q0_c q0_rowScale q0_columnScale q0_sa q0_sb q0_sc q0_x q0_s q0_y q0_p q0_d q0_h q0_f q0_mm q0_low q0_dd q0_r q0_big q0_dt q0_dx q0_t q0_cost q0_rowScaleNow q0_columnScaleNow q0_basic q0_text q0_turned q0_na q0_nb q0_nc vq0_m vq0_n vq0_length vq0_where vq0_effort vq0_thrown vq0_at vq0_scaled vq0_solved vq0_second vq0_nm vq0_nn vq0_number vq0_bad vq0_sa vq0_x vq0_s vq0_y vq0_d vq0_h vq0_big (vf_upd vq0_dt x7.toNatClampNeg (vq0_d x7.toNatClampNeg)) vq0_dx) H := hP
        have hD : va_D A (w_M_move T q0 q0_a q0_b q0_c q0_rowScale q0_columnScale q0_sa q0_sb q0_sc q0_x q0_s q0_y q0_p q0_d q0_h q0_f q0_mm q0_low q0_dd q0_r q0_big q0_dt q0_dx q0_t q0_cost q0_rowScaleNow q0_columnScaleNow q0_basic q0_text q0_turned q0_na q0_nb q0_nc vq0_m vq0_n vq0_length vq0_where vq0_effort vq0_thrown vq0_at vq0_scaled vq0_solved vq0_second vq0_nm vq0_nn vq0_number vq0_bad vq0_sa vq0_x vq0_s vq0_y vq0_d vq0_h vq0_big (vf_upd vq0_dt x7.toNatClampNeg (vq0_d x7.toNatClampNeg)) vq0_dx) := hD
        refine lv_iconst (v := 0) hx hb d_M_move_31 (by decide) ?_
        refine lv_istore (lv' := [(8, .int 0), (0, .ref q0), (1, .double x1), (3, .double x3), (5, .double x5), (7, .int x7)]) hx hb d_M_move_32 hl (by decide) rfl (fun ls hl => ?_)
        exact L34 (vf_upd vq0_dt x7.toNatClampNeg (vq0_d x7.toNatClampNeg)) vq0_dx x3 x5 x7 0 H locs ls hP hD hS (lv_sub hl [1, 2, 3, 4, 5, 0] rfl) h
    · intro H locs ls hP hD hS hl
      refine lv_iconst (v := 0) hx hb d_M_move_221 (by decide) ?_
      refine lv_istore (lv' := [(7, .int 0), (0, .ref q0), (3, .double ul8.2.2.1), (5, .double ul8.2.2.2)]) hx hb d_M_move_222 hl (by decide) rfl (fun ls hl => ?_)
      exact L224 vq0_x vq0_s vq0_y ul8.1 ul8.2.1 ul8.2.2.1 ul8.2.2.2 0 H locs ls hP hD hS (lv_sub hl [1, 2, 3, 0] rfl) h
  unfold s_M_move at h
  refine lv_dconst1 hx hb d_M_move_0 ?_
  refine lv_dstore_n (lv' := [(3, .double FP.dconst1), (0, .ref q0), (1, .double x1)]) hx hb d_M_move_1 rfl hl (by decide) rfl (fun ls hl => ?_)
  refine lv_dconst1 hx hb d_M_move_2 ?_
  refine lv_dstore (lv' := [(5, .double FP.dconst1), (3, .double FP.dconst1), (0, .ref q0), (1, .double x1)]) hx hb d_M_move_3 hl (by decide) rfl (fun ls hl => ?_)
  refine lv_iconst (v := 0) hx hb d_M_move_5 (by decide) ?_
  refine lv_istore (lv' := [(7, .int 0), (5, .double FP.dconst1), (3, .double FP.dconst1), (0, .ref q0), (1, .double x1)]) hx hb d_M_move_6 hl (by decide) rfl (fun ls hl => ?_)
  exact L8 vq0_x vq0_s vq0_y vq0_dt vq0_dx x1 FP.dconst1 FP.dconst1 0 H locs ls hP hD hS (lv_sub hl [3, 4, 2, 1, 0] rfl) h
