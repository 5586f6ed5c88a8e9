theorem d_L_law_0 : decode code 0 = .ok (.new 8, 3) := by decide +kernel
theorem d_L_law_3 : decode code 3 = .ok (.dup, 1) := by decide +kernel
theorem d_L_law_4 : decode code 4 = .ok (.invokespecial 55, 3) := by decide +kernel
theorem d_L_law_7 : decode code 7 = .ok (.astore_n 1, 1) := by decide +kernel
theorem d_L_law_8 : decode code 8 = .ok (.new 56, 3) := by decide +kernel
theorem d_L_law_11 : decode code 11 = .ok (.dup, 1) := by decide +kernel
theorem d_L_law_12 : decode code 12 = .ok (.invokespecial 58, 3) := by decide +kernel
theorem d_L_law_15 : decode code 15 = .ok (.astore_n 2, 1) := by decide +kernel
theorem d_L_law_16 : decode code 16 = .ok (.iconst 1, 1) := by decide +kernel
theorem d_L_law_17 : decode code 17 = .ok (.newarray .long, 2) := by decide +kernel
theorem d_L_law_19 : decode code 19 = .ok (.astore_n 3, 1) := by decide +kernel
theorem d_L_law_20 : decode code 20 = .ok (.iconst 1, 1) := by decide +kernel
theorem d_L_law_21 : decode code 21 = .ok (.newarray .double, 2) := by decide +kernel
theorem d_L_law_23 : decode code 23 = .ok (.astore 4, 2) := by decide +kernel
theorem d_L_law_25 : decode code 25 = .ok (.iconst 0, 1) := by decide +kernel
theorem d_L_law_26 : decode code 26 = .ok (.istore 5, 2) := by decide +kernel
theorem d_L_law_28 : decode code 28 = .ok (.iload 5, 2) := by decide +kernel
theorem d_L_law_30 : decode code 30 = .ok (.aload_n 0, 1) := by decide +kernel
theorem d_L_law_31 : decode code 31 = .ok (.arraylength, 1) := by decide +kernel
theorem d_L_law_32 : decode code 32 = .ok (.iconst 5, 1) := by decide +kernel
theorem d_L_law_33 : decode code 33 = .ok (.isub, 1) := by decide +kernel
theorem d_L_law_34 : decode code 34 = .ok (.if_icmp .gt 943, 3) := by decide +kernel
theorem d_L_law_37 : decode code 37 = .ok (.aload_n 0, 1) := by decide +kernel
theorem d_L_law_38 : decode code 38 = .ok (.iload 5, 2) := by decide +kernel
theorem d_L_law_40 : decode code 40 = .ok (.iaload, 1) := by decide +kernel
theorem d_L_law_41 : decode code 41 = .ok (.bipush 15, 2) := by decide +kernel
theorem d_L_law_43 : decode code 43 = .ok (.iand, 1) := by decide +kernel
theorem d_L_law_44 : decode code 44 = .ok (.tableswitch 927 0 13 #[72, 140, 263, 304, 392, 436, 449, 505, 518, 607, 620, 697, 782, 838], 72) := by decide +kernel
theorem d_L_law_116 : decode code 116 = .ok (.aload_n 1, 1) := by decide +kernel
theorem d_L_law_117 : decode code 117 = .ok (.aload_n 0, 1) := by decide +kernel
theorem d_L_law_118 : decode code 118 = .ok (.iload 5, 2) := by decide +kernel
theorem d_L_law_120 : decode code 120 = .ok (.iconst 1, 1) := by decide +kernel
theorem d_L_law_121 : decode code 121 = .ok (.iadd, 1) := by decide +kernel
theorem d_L_law_122 : decode code 122 = .ok (.iaload, 1) := by decide +kernel
theorem d_L_law_123 : decode code 123 = .ok (.aload_n 0, 1) := by decide +kernel
theorem d_L_law_124 : decode code 124 = .ok (.iload 5, 2) := by decide +kernel
theorem d_L_law_126 : decode code 126 = .ok (.iconst 2, 1) := by decide +kernel
theorem d_L_law_127 : decode code 127 = .ok (.iadd, 1) := by decide +kernel
theorem d_L_law_128 : decode code 128 = .ok (.iaload, 1) := by decide +kernel
theorem d_L_law_129 : decode code 129 = .ok (.aload_n 3, 1) := by decide +kernel
theorem d_L_law_130 : decode code 130 = .ok (.invokestatic 59, 3) := by decide +kernel
theorem d_L_law_133 : decode code 133 = .ok (.istore 6, 2) := by decide +kernel
theorem d_L_law_135 : decode code 135 = .ok (.aload_n 2, 1) := by decide +kernel
theorem d_L_law_136 : decode code 136 = .ok (.aload_n 0, 1) := by decide +kernel
theorem d_L_law_137 : decode code 137 = .ok (.iload 5, 2) := by decide +kernel
theorem d_L_law_139 : decode code 139 = .ok (.iconst 1, 1) := by decide +kernel
theorem d_L_law_140 : decode code 140 = .ok (.iadd, 1) := by decide +kernel
theorem d_L_law_141 : decode code 141 = .ok (.iaload, 1) := by decide +kernel
theorem d_L_law_142 : decode code 142 = .ok (.aload_n 0, 1) := by decide +kernel
theorem d_L_law_143 : decode code 143 = .ok (.iload 5, 2) := by decide +kernel
theorem d_L_law_145 : decode code 145 = .ok (.iconst 2, 1) := by decide +kernel
theorem d_L_law_146 : decode code 146 = .ok (.iadd, 1) := by decide +kernel
theorem d_L_law_147 : decode code 147 = .ok (.iaload, 1) := by decide +kernel
theorem d_L_law_148 : decode code 148 = .ok (.invokevirtual 64, 3) := by decide +kernel
theorem d_L_law_151 : decode code 151 = .ok (.istore 7, 2) := by decide +kernel
theorem d_L_law_153 : decode code 153 = .ok (.aload_n 2, 1) := by decide +kernel
theorem d_L_law_154 : decode code 154 = .ok (.invokevirtual 65, 3) := by decide +kernel
theorem d_L_law_157 : decode code 157 = .ok (.iload 6, 2) := by decide +kernel
theorem d_L_law_159 : decode code 159 = .ok (.if_icmp .eq 5, 3) := by decide +kernel
theorem d_L_law_162 : decode code 162 = .ok (.iconst 0, 1) := by decide +kernel
theorem d_L_law_163 : decode code 163 = .ok (.ireturn, 1) := by decide +kernel
theorem d_L_law_164 : decode code 164 = .ok (.iload 6, 2) := by decide +kernel
theorem d_L_law_166 : decode code 166 = .ok (.ifCond .ne 15, 3) := by decide +kernel
theorem d_L_law_169 : decode code 169 = .ok (.aload_n 3, 1) := by decide +kernel
theorem d_L_law_170 : decode code 170 = .ok (.iconst 0, 1) := by decide +kernel
theorem d_L_law_171 : decode code 171 = .ok (.laload, 1) := by decide +kernel
theorem d_L_law_172 : decode code 172 = .ok (.iload 7, 2) := by decide +kernel
theorem d_L_law_174 : decode code 174 = .ok (.i2l, 1) := by decide +kernel
theorem d_L_law_175 : decode code 175 = .ok (.lcmp, 1) := by decide +kernel
theorem d_L_law_176 : decode code 176 = .ok (.ifCond .eq 5, 3) := by decide +kernel
theorem d_L_law_179 : decode code 179 = .ok (.iconst 0, 1) := by decide +kernel
theorem d_L_law_180 : decode code 180 = .ok (.ireturn, 1) := by decide +kernel
theorem d_L_law_181 : decode code 181 = .ok (.goto 790, 3) := by decide +kernel
theorem d_L_law_184 : decode code 184 = .ok (.aload_n 1, 1) := by decide +kernel
theorem d_L_law_185 : decode code 185 = .ok (.aload_n 0, 1) := by decide +kernel
theorem d_L_law_186 : decode code 186 = .ok (.iload 5, 2) := by decide +kernel
theorem d_L_law_188 : decode code 188 = .ok (.iconst 1, 1) := by decide +kernel
theorem d_L_law_189 : decode code 189 = .ok (.iadd, 1) := by decide +kernel
theorem d_L_law_190 : decode code 190 = .ok (.iaload, 1) := by decide +kernel
theorem d_L_law_191 : decode code 191 = .ok (.aload_n 0, 1) := by decide +kernel
theorem d_L_law_192 : decode code 192 = .ok (.iload 5, 2) := by decide +kernel
theorem d_L_law_194 : decode code 194 = .ok (.iconst 2, 1) := by decide +kernel
theorem d_L_law_195 : decode code 195 = .ok (.iadd, 1) := by decide +kernel
theorem d_L_law_196 : decode code 196 = .ok (.iaload, 1) := by decide +kernel
theorem d_L_law_197 : decode code 197 = .ok (.aload_n 0, 1) := by decide +kernel
theorem d_L_law_198 : decode code 198 = .ok (.iload 5, 2) := by decide +kernel
theorem d_L_law_200 : decode code 200 = .ok (.iconst 3, 1) := by decide +kernel
theorem d_L_law_201 : decode code 201 = .ok (.iadd, 1) := by decide +kernel
theorem d_L_law_202 : decode code 202 = .ok (.iaload, 1) := by decide +kernel
theorem d_L_law_203 : decode code 203 = .ok (.aload_n 0, 1) := by decide +kernel
theorem d_L_law_204 : decode code 204 = .ok (.iload 5, 2) := by decide +kernel
theorem d_L_law_206 : decode code 206 = .ok (.iconst 4, 1) := by decide +kernel
theorem d_L_law_207 : decode code 207 = .ok (.iadd, 1) := by decide +kernel
theorem d_L_law_208 : decode code 208 = .ok (.iaload, 1) := by decide +kernel
theorem d_L_law_209 : decode code 209 = .ok (.i2d, 1) := by decide +kernel
theorem d_L_law_210 : decode code 210 = .ok (.ldc2_w 68, 3) := by decide +kernel
theorem d_L_law_213 : decode code 213 = .ok (.dmul, 1) := by decide +kernel
theorem d_L_law_214 : decode code 214 = .ok (.aload 4, 2) := by decide +kernel
theorem d_L_law_216 : decode code 216 = .ok (.invokestatic 70, 3) := by decide +kernel
theorem d_L_law_219 : decode code 219 = .ok (.istore 6, 2) := by decide +kernel
theorem d_L_law_221 : decode code 221 = .ok (.aload_n 2, 1) := by decide +kernel
theorem d_L_law_222 : decode code 222 = .ok (.aload_n 0, 1) := by decide +kernel
theorem d_L_law_223 : decode code 223 = .ok (.iload 5, 2) := by decide +kernel
theorem d_L_law_225 : decode code 225 = .ok (.iconst 1, 1) := by decide +kernel
theorem d_L_law_226 : decode code 226 = .ok (.iadd, 1) := by decide +kernel
theorem d_L_law_227 : decode code 227 = .ok (.iaload, 1) := by decide +kernel
theorem d_L_law_228 : decode code 228 = .ok (.aload_n 0, 1) := by decide +kernel
theorem d_L_law_229 : decode code 229 = .ok (.iload 5, 2) := by decide +kernel
theorem d_L_law_231 : decode code 231 = .ok (.iconst 2, 1) := by decide +kernel
theorem d_L_law_232 : decode code 232 = .ok (.iadd, 1) := by decide +kernel
theorem d_L_law_233 : decode code 233 = .ok (.iaload, 1) := by decide +kernel
theorem d_L_law_234 : decode code 234 = .ok (.aload_n 0, 1) := by decide +kernel
theorem d_L_law_235 : decode code 235 = .ok (.iload 5, 2) := by decide +kernel
theorem d_L_law_237 : decode code 237 = .ok (.iconst 3, 1) := by decide +kernel
theorem d_L_law_238 : decode code 238 = .ok (.iadd, 1) := by decide +kernel
theorem d_L_law_239 : decode code 239 = .ok (.iaload, 1) := by decide +kernel
theorem d_L_law_240 : decode code 240 = .ok (.aload_n 0, 1) := by decide +kernel
theorem d_L_law_241 : decode code 241 = .ok (.iload 5, 2) := by decide +kernel
theorem d_L_law_243 : decode code 243 = .ok (.iconst 4, 1) := by decide +kernel
theorem d_L_law_244 : decode code 244 = .ok (.iadd, 1) := by decide +kernel
theorem d_L_law_245 : decode code 245 = .ok (.iaload, 1) := by decide +kernel
theorem d_L_law_246 : decode code 246 = .ok (.i2d, 1) := by decide +kernel
theorem d_L_law_247 : decode code 247 = .ok (.ldc2_w 68, 3) := by decide +kernel
theorem d_L_law_250 : decode code 250 = .ok (.dmul, 1) := by decide +kernel
theorem d_L_law_251 : decode code 251 = .ok (.invokevirtual 73, 3) := by decide +kernel
theorem d_L_law_254 : decode code 254 = .ok (.dstore 7, 2) := by decide +kernel
theorem d_L_law_256 : decode code 256 = .ok (.aload_n 2, 1) := by decide +kernel
theorem d_L_law_257 : decode code 257 = .ok (.invokevirtual 65, 3) := by decide +kernel
theorem d_L_law_260 : decode code 260 = .ok (.iload 6, 2) := by decide +kernel
theorem d_L_law_262 : decode code 262 = .ok (.if_icmp .eq 5, 3) := by decide +kernel
theorem d_L_law_265 : decode code 265 = .ok (.iconst 0, 1) := by decide +kernel
theorem d_L_law_266 : decode code 266 = .ok (.ireturn, 1) := by decide +kernel
theorem d_L_law_267 : decode code 267 = .ok (.iload 6, 2) := by decide +kernel
theorem d_L_law_269 : decode code 269 = .ok (.ifCond .ne 35, 3) := by decide +kernel
theorem d_L_law_272 : decode code 272 = .ok (.aload 4, 2) := by decide +kernel
theorem d_L_law_274 : decode code 274 = .ok (.iconst 0, 1) := by decide +kernel
theorem d_L_law_275 : decode code 275 = .ok (.daload, 1) := by decide +kernel
theorem d_L_law_276 : decode code 276 = .ok (.dload 7, 2) := by decide +kernel
theorem d_L_law_278 : decode code 278 = .ok (.dcmp .l, 1) := by decide +kernel
theorem d_L_law_279 : decode code 279 = .ok (.ifCond .eq 25, 3) := by decide +kernel
theorem d_L_law_282 : decode code 282 = .ok (.aload 4, 2) := by decide +kernel
theorem d_L_law_284 : decode code 284 = .ok (.iconst 0, 1) := by decide +kernel
theorem d_L_law_285 : decode code 285 = .ok (.daload, 1) := by decide +kernel
theorem d_L_law_286 : decode code 286 = .ok (.aload 4, 2) := by decide +kernel
theorem d_L_law_288 : decode code 288 = .ok (.iconst 0, 1) := by decide +kernel
theorem d_L_law_289 : decode code 289 = .ok (.daload, 1) := by decide +kernel
theorem d_L_law_290 : decode code 290 = .ok (.dcmp .l, 1) := by decide +kernel
theorem d_L_law_291 : decode code 291 = .ok (.ifCond .eq 11, 3) := by decide +kernel
theorem d_L_law_294 : decode code 294 = .ok (.dload 7, 2) := by decide +kernel
theorem d_L_law_296 : decode code 296 = .ok (.dload 7, 2) := by decide +kernel
